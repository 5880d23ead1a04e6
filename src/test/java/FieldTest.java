/** Promises 1 to 9: what is told of a field. */
public final class FieldTest {
    private static final int LOW = Integer.MIN_VALUE, HIGH = Integer.MAX_VALUE;

    public static void main(String[] args) {
        newObject();
        tentSizes();
        tentForgets();
        tentKeeps();
        pegs();
        pegBad();
        pegLeavesTheRest();
        wet();
        walls();
        odds();
        type();
        clear();
        readOrdinary();
        readFaults();
        readWords();
        readNothingBehindTheText();
        readRefusals();
        readAnew();
        readLeavesAfterFailure();
        Due.end("FieldTest");
    }

    private static void atFirst(TentPegs x, int n) {
        int[] counts = {n, n, 0, 0, 0};
        for (int what = 0; what < counts.length; what++) {
            Due.due("count(" + what + ")", x.count(what), counts[what]);
        }
        for (int k = 0; k < n; k++) {
            int[] of = {0, 5, 4, 20, 1, k * 8 / n};
            for (int what = 0; what < of.length; what++) {
                Due.due("of(" + k + ", " + what + ")", x.of(k, what), of[what]);
            }
        }
        for (int way = 0; way < 8; way++) {
            Due.due("odds(" + way + ", 1)", x.odds(way, 1), 1);
        }
    }

    private static void newObject() {
        TentPegs x = new TentPegs();
        Due.refused(x, 0, 0, 0);
        atFirst(x, 8);
        Due.due("count(5)", x.count(5), 0);
        Due.due("part(0)", x.part(0), 0);
        Due.due("part(1)", x.part(1), 1);
        Due.due("undo()", x.undo(), TentPegs.NO);
        Due.due("from(0)", x.from(0), TentPegs.NO);
        Due.due("from(1)", x.from(1), TentPegs.NO);
        Due.refused(x, 0, 3, 0);
        Due.due("gust", x.gust(0, 20), 0);
    }

    private static void tentSizes() {
        TentPegs x = new TentPegs();
        int was = 8;
        for (int n = 2; n <= 8; n++) {
            Due.due("tent(" + n + ")", x.tent(n), was);
            atFirst(x, n);
            Due.due("of a peg more", x.of(n, 0), TentPegs.BAD);
            was = n;
        }
        long before = Due.all(x);
        for (int n : new int[] {1, 9, 0, -1, LOW, HIGH}) {
            Due.due("tent(" + n + ")", x.tent(n), TentPegs.BAD);
        }
        Due.due("all after BAD tents", Due.all(x), before);
        Due.refused(x, 13, 0, 0);
        int[][] ways = {{0, 4}, {0, 2, 5}, {0, 2, 4, 6}, {0, 1, 3, 4, 6}, {0, 1, 2, 4, 5, 6},
            {0, 1, 2, 3, 4, 5, 6}, {0, 1, 2, 3, 4, 5, 6, 7}};
        for (int[] round : ways) {
            x.tent(round.length);
            for (int k = 0; k < round.length; k++) {
                Due.due("way of " + k + " of " + round.length, x.of(k, 5), round[k]);
            }
        }
    }

    private static void tellAll(TentPegs x) {
        x.peg(0, 1, 9, 9);
        x.peg(7, 4, 0, 1);
        x.wet(5);
        x.wall(2, true);
        x.wall(7, true);
        x.odds(0, 20);
        x.odds(7, 0);
        x.stand(1, false);
        x.gust(3, 1);
    }

    private static void tentForgets() {
        TentPegs x = new TentPegs();
        tellAll(x);
        Due.due("count(4)", x.count(4), 2);
        Due.due("tent(8)", x.tent(8), 8);
        Due.due("undo()", x.undo(), TentPegs.NO);
        atFirst(x, 8);
        tellAll(x);
        x.tent(3);
        atFirst(x, 3);
        x.tent(8);
        atFirst(x, 8);
    }

    private static void tentKeeps() {
        TentPegs x = new TentPegs();
        x.type('a');
        x.type('b');
        x.odds(0, 0);
        x.peg(4, 0, 1, 3);
        x.chance(5);
        x.wet(3);
        x.image(1);
        x.wet(-1);
        x.tent(4);
        Due.due("count(5)", x.count(5), 2);
        Due.due("part(0)", x.part(0), 6);
        Due.due("part(1)", x.part(1), 7);
        Due.refused(x, 1, 0, 0);
        Due.due("from(1)", x.from(1), 1);
        Due.due("count(2)", x.count(2), 3);
        Due.due("count(0)", x.count(0), 8);
    }

    private static void pegs() {
        TentPegs x = new TentPegs();
        int was = 0;
        for (int kind = 0; kind <= 5; kind++) {
            Due.due("peg", x.peg(3, kind, 9 - kind, kind), was);
            Due.due("kind", x.of(3, 0), kind);
            Due.due("depth", x.of(3, 1), 9 - kind);
            Due.due("ground", x.of(3, 2), kind);
            was = kind;
        }
        Due.due("peg", x.peg(3, 0, 0, 9), 5);
        Due.due("depth", x.of(3, 1), 0);
        Due.due("ground", x.of(3, 2), 9);
        Due.due("peg", x.peg(0, 1, 0, 0), 0);
        Due.due("peg", x.peg(7, 2, 9, 9), 0);
        Due.due("another's kind", x.of(2, 0), 0);
        Due.refused(x, 0, 0, 0);
    }

    private static void pegBad() {
        TentPegs x = new TentPegs();
        x.tent(6);
        long before = Due.all(x);
        int[][] told = {{-1, 0, 0, 0}, {6, 0, 0, 0}, {LOW, 0, 0, 0}, {HIGH, 0, 0, 0}, {0, -1, 0, 0}, {0, 6, 0, 0},
            {0, HIGH, 0, 0}, {0, 0, -1, 0}, {0, 0, 10, 0}, {0, 0, LOW, 0}, {0, 0, 0, -1}, {0, 0, 0, 10}, {0, 0, 0, HIGH}};
        for (int[] t : told) {
            Due.due("peg", x.peg(t[0], t[1], t[2], t[3]), TentPegs.BAD);
        }
        Due.due("all after BAD pegs", Due.all(x), before);
        Due.refused(x, told.length, 0, 0);
    }

    private static void pegLeavesTheRest() {
        TentPegs x = new TentPegs();
        x.stand(2, false);
        Due.due("peg", x.peg(2, 2, 1, 1), 0);
        Due.due("still gone", x.of(2, 4), 0);
        Due.due("what may be undone", x.count(4), 1);
        Due.due("undo()", x.undo(), 1);
        Due.due("stands", x.of(2, 4), 1);
        Due.due("kind stays told", x.of(2, 0), 2);
    }

    private static void wet() {
        TentPegs x = new TentPegs();
        Due.due("wet(9)", x.wet(9), 0);
        Due.due("wet(0)", x.wet(0), 9);
        Due.due("wet(4)", x.wet(4), 0);
        for (int n : new int[] {-1, 10, LOW, HIGH}) {
            Due.due("wet(" + n + ")", x.wet(n), TentPegs.BAD);
        }
        Due.due("count(2)", x.count(2), 4);
        Due.refused(x, 4, 0, 0);
    }

    private static void walls() {
        TentPegs x = new TentPegs();
        Due.due("wall(3, false)", x.wall(3, false), TentPegs.NO);
        Due.due("wall(3, true)", x.wall(3, true), 1);
        Due.due("wall(3, true)", x.wall(3, true), TentPegs.NO);
        Due.due("wall(0, true)", x.wall(0, true), 1);
        Due.due("wall(7, true)", x.wall(7, true), 1);
        Due.due("count(3)", x.count(3), 137);
        Due.due("wall(3, false)", x.wall(3, false), 1);
        Due.due("wall(3, false)", x.wall(3, false), TentPegs.NO);
        for (int way : new int[] {-1, 8, 32, LOW, HIGH}) {
            Due.due("wall", x.wall(way, true), TentPegs.BAD);
            Due.due("wall", x.wall(way, false), TentPegs.BAD);
        }
        Due.due("count(3)", x.count(3), 129);
        Due.refused(x, 10, 3, 0);
    }

    private static void odds() {
        TentPegs x = new TentPegs();
        Due.due("odds(0, 20)", x.odds(0, 20), 1);
        Due.due("odds(0, 0)", x.odds(0, 0), 20);
        Due.due("odds(0, 7)", x.odds(0, 7), 0);
        Due.due("odds(7, 3)", x.odds(7, 3), 1);
        int[][] told = {{-1, 1}, {8, 1}, {HIGH, 1}, {LOW, 1}, {0, -1}, {0, 21}, {0, HIGH}, {0, LOW}};
        for (int[] t : told) {
            Due.due("odds", x.odds(t[0], t[1]), TentPegs.BAD);
        }
        Due.due("odds(0, 1)", x.odds(0, 1), 7);
        Due.due("odds(7, 1)", x.odds(7, 1), 3);
        Due.refused(x, told.length, 0, 0);
    }

    private static void type() {
        TentPegs x = new TentPegs();
        for (int c : new int[] {-1, 128, 255, 256, LOW, HIGH}) {
            Due.due("type(" + c + ")", x.type(c), TentPegs.BAD);
        }
        for (int i = 1; i <= 150; i++) {
            Due.due("type", x.type(i % 2 == 0 ? 0 : 127), i);
        }
        Due.due("type(97)", x.type(97), TentPegs.FULL);
        Due.due("type(128)", x.type(128), TentPegs.BAD);
        Due.due("type(0)", x.type(0), TentPegs.FULL);
        Due.due("count(5)", x.count(5), 150);
        Due.refused(x, 7, 0, 2);
    }

    private static void clear() {
        TentPegs x = new TentPegs();
        Due.due("clear()", x.clear(), 0);
        x.type(1);
        x.type(2);
        Due.due("clear()", x.clear(), 2);
        Due.due("clear()", x.clear(), 0);
        Due.due("type", x.type(3), 1);
        Due.due("read after clear", Due.read(x, "tent 4;"), 1);
        x.clear();
        Due.due("read of nothing", x.read(), -10);
        Due.refused(x, 0, 0, 0);
    }

    private static void reads(String text, int want) {
        TentPegs x = new TentPegs();
        Due.due("read \"" + text + "\"", Due.read(x, text), want);
        Due.refused(x, 0, 0, 0);
        Due.due("count(5)", x.count(5), text.length());
    }

    private static void readOrdinary() {
        reads("tent 8;", 1);
        reads("tent8;", 1);
        reads("  tent   08  ;  ", 1);
        reads("tent 2;peg 0 5 3 3;peg1 0 9 9;wet 9;wall 4;odds 0 20;gone 1;", 7);
        reads("tent2;peg0 5 3 3;peg1 0 9 9;wet9;wall4;odds0 20;gone1;", 7);
        reads("tent 2;peg 0 5 3 3;peg1 0 9 9 9;wet 9;wall 4;odds 0 20;gone 1;", -40);
        reads("tent 8;wet 9;wet 0;wet 1;peg 0 0 0 0;peg 0 0 0 0;odds 7 0;odds 7 0;", 8);
        StringBuilder longest = new StringBuilder("tent 8;");
        while (longest.length() < 150) {
            longest.append(longest.length() % 2 == 1 && longest.length() + 5 <= 150 ? "wet1;" : " ");
        }
        reads(longest.toString(), 1 + longest.toString().split("wet", -1).length - 1);
        StringBuilder many = new StringBuilder("tent8;");
        while (many.length() + 5 <= 150) {
            many.append("wet1;");
        }
        reads(many.toString(), 29);
    }

    private static void readFaults() {
        reads("", -10);
        reads("   ", -13);
        reads("tent", -14);
        reads("tent ", -15);
        reads("tent;", -14);
        reads("tent 8", -16);
        reads("tent 8  ", -18);
        reads("tent 8;wet 1", -22);
        reads("tent 8;wet", -20);
        reads(";", -10);
        reads(" ;tent 8;", -11);
        reads("8;", -10);
        reads("wet 1;tent 8;", -10);
        reads("Tent 8;", -10);
        reads("tents 8;", -10);
        reads("ten 8;", -10);
        reads("tentwet 8;", -10);
        reads("tent tent 8;", -15);
        reads("tent 8 8;", -17);
        reads("tent 8;;", -17);
        reads("tent 8; 8;", -18);
        reads("tent 8;tent 8;", -17);
        reads("tent 8;wet 1;tent 8;", -23);
        reads("tent 8;rain 8;", -17);
        reads("tent 123;", -15);
        reads("tent 008;", -15);
        reads("tent 8;wet 1 2;", -23);
        reads("tent 8;peg 0 0 0;", -26);
        reads("tent 8;peg 0 0 0 0 0;", -29);
        reads("tent 8;odds 0;", -23);
        reads("tent 8;odds 0 0 0;", -26);
        reads("tent 8,", -16);
        reads("tent 8;\t", -17);
        reads("tent 8;{", -17);
        reads("tent 8;`", -17);
        reads("tent -8;", -15);
        reads("tent 8:", -16);
        reads("tent /8;", -15);
        reads("tent 8;wet 1; \u0000", -24);
        reads("tent 8;wet 1; \u007f", -24);
        reads("tent 1;tent", -17);
        reads("tent 9;wet 10;wall", -28);
    }

    private static void readWords() {
        String[] items = {"peg 0 0 0 0;", "wet 0;", "wall 0;", "odds 0 0;", "gone 0;"};
        for (String item : items) {
            reads("tent 8;" + item, 2);
            for (int i = 0; i < item.indexOf(' '); i++) {
                String other = item.substring(0, i) + "q" + item.substring(i + 1);
                reads("tent 8;" + other, -17);
                reads("tent 8;" + item.substring(0, i) + item.substring(i + 1), -17);
                reads("tent 8;" + item.substring(0, i) + "z" + item.substring(i), -17);
            }
        }
        for (int i = 0; i < 4; i++) {
            reads("tent".substring(0, i) + "q" + "tent".substring(i + 1) + " 8;", -10);
        }
    }

    /** What was typed ahead of clear is no part of THE TEXT. */
    private static void readNothingBehindTheText() {
        TentPegs x = new TentPegs();
        Due.due("read", Due.read(x, "tent 8;wet 88;"), -1001);
        Due.due("read", Due.read(x, "tent 8;we"), -17);
        Due.due("read", Due.read(x, "tent 8;wet 8"), -22);
        Due.due("read", Due.read(x, "tent 8;wet 8;"), 2);
        Due.due("read", Due.read(x, "tent 8"), -16);
        Due.due("read", Due.read(x, "tent 8;"), 1);
        Due.due("count(2)", x.count(2), 0);
    }

    private static void readRefusals() {
        reads("tent 1;", -1000);
        reads("tent 0;", -1000);
        reads("tent 9;", -1000);
        reads("tent 99;", -1000);
        reads("tent 9;wet 10;", -1000);
        reads("tent 8;wet 10;", -1001);
        reads("tent 8;wet 9;wet 10;wall 8;", -1002);
        reads("tent 8;wall 8;", -1001);
        reads("tent 8;wall 7;wall 7;", -1002);
        reads("tent 8;odds 8 1;", -1001);
        reads("tent 8;odds 7 21;", -1001);
        reads("tent 8;peg 8 0 0 0;", -1001);
        reads("tent 3;peg 3 0 0 0;", -1001);
        reads("tent 3;peg 2 6 0 0;", -1001);
        reads("tent 3;peg 2 0 10 0;", -1001);
        reads("tent 3;peg 2 0 0 10;", -1001);
        reads("tent 3;gone 3;", -1001);
        reads("tent 3;gone 2;gone 2;", -1002);
        reads("tent 3;gone 2;gone 1;gone 0;", 4);
    }

    private static void readAnew() {
        TentPegs x = new TentPegs();
        tellAll(x);
        x.chance(0);
        Due.due("read", Due.read(x, "tent 5;peg 4 2 3 1;wall 6;odds 3 0;gone 4;gone 0;wet 2;"), 7);
        int[] counts = {5, 3, 2, 64, 0, 57 - 2};
        for (int what = 0; what < counts.length; what++) {
            Due.due("count(" + what + ")", x.count(what), counts[what]);
        }
        int[][] of = {{0, 5, 4, 20, 0}, {0, 5, 4, 20, 1}, {0, 5, 4, 20, 1}, {0, 5, 4, 20, 1}, {2, 3, 1, 13, 0}};
        for (int k = 0; k < of.length; k++) {
            for (int what = 0; what < 5; what++) {
                Due.due("of(" + k + ", " + what + ")", x.of(k, what), of[k][what]);
            }
        }
        int[] odds = {1, 1, 1, 0, 1, 1, 1, 1};
        for (int way = 0; way < 8; way++) {
            Due.due("odds", x.odds(way, 0), odds[way]);
        }
        Due.due("undo()", x.undo(), TentPegs.NO);
        Due.due("part(1)", x.part(1), 1);
        Due.due("part(0)", x.part(0), 1);
        Due.due("read again", x.read(), 7);
        Due.due("odds(0, 1)", x.odds(0, 1), 1);
        Due.due("wall(6, true)", x.wall(6, true), TentPegs.NO);
        Due.due("stand(4, false)", x.stand(4, false), TentPegs.NO);
    }

    private static void readLeavesAfterFailure() {
        TentPegs x = new TentPegs();
        tellAll(x);
        String[] texts = {"tent 3;wet 1;wall", "tent 3;wet 1;wall 9;"};
        int[] want = {-10 - 17, -1002};
        for (int i = 0; i < texts.length; i++) {
            x.clear();
            for (char c : texts[i].toCharArray()) {
                x.type(c);
            }
            long before = Due.all(x);
            Due.due("read", x.read(), want[i]);
            Due.due("all after a failed read", Due.all(x), before);
        }
        Due.due("count(4)", x.count(4), 2);
        Due.due("undo()", x.undo(), 1);
        Due.due("undo()", x.undo(), 1);
        Due.due("count(1)", x.count(1), 8);
        Due.refused(x, 0, 0, 0);
    }
}
