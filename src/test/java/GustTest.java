/** Promises 10 to 14: gusts, and who stands. */
public final class GustTest {
    private static final int LOW = Integer.MIN_VALUE, HIGH = Integer.MAX_VALUE;

    public static void main(String[] args) {
        gustTakesAll();
        gustTakesSome();
        gustOddHalves();
        gustOnGonePegs();
        gustZipped();
        gustRefused();
        stand();
        undo();
        undoTen();
        of();
        ofZipped();
        ofBad();
        pull();
        pullByWalls();
        pullBad();
        Due.end("GustTest");
    }

    private static void gone(TentPegs x, int way, int strength, int... order) {
        Due.due("first(" + way + ", " + strength + ", NONE)", x.first(way, strength, -1), order.length);
        for (int i = 0; i < order.length; i++) {
            Due.due("first(" + way + ", " + strength + ", " + i + ")", x.first(way, strength, i), order[i]);
        }
        x.image(0);
        Due.due("gust(" + way + ", " + strength + ")", x.gust(way, strength), order.length);
        for (int peg : order) {
            Due.due("of(" + peg + ", 4)", x.of(peg, 4), 0);
        }
        x.from(0);
    }

    private static void gustTakesAll() {
        TentPegs x = new TentPegs();
        x.tent(4);
        gone(x, 0, 20);
        // 24, 12, 0, 12: 0 hands 12 to each beside; 1 hands 12 to 2, and 12 over the gap to 3.
        gone(x, 0, 24, 0, 1, 3, 2);
        Due.due("gust(0, 24)", x.gust(0, 24), 4);
        Due.due("count(1)", x.count(1), 0);
        Due.due("gust(0, 0)", x.gust(0, 0), TentPegs.NO);
    }

    private static void gustTakesSome() {
        TentPegs x = new TentPegs();
        x.tent(4);
        x.peg(1, 0, 8, 5);
        x.peg(3, 0, 8, 5);
        gone(x, 0, 25, 0);
        // 52, 26, 0, 26: beside 0 now 52 each, 12 too much: 1 first; its rest comes to 3.
        gone(x, 0, 52, 0, 1, 3, 2);
        // 0, 26, 52, 26: the same by the way over against.
        gone(x, 4, 52, 2, 1, 3, 0);
        Due.due("gust(0, 25)", x.gust(0, 25), 1);
        Due.due("count(1)", x.count(1), 3);
        Due.due("gust(0, 60)", x.gust(0, 60), 0);
        // 2 has 30 and 15 each beside: 30 more than none; 15 and 15 to them both, held.
        Due.due("gust(4, 30)", x.gust(4, 30), 1);
        Due.due("count(1)", x.count(1), 2);
        Due.due("gust(2, 60)", x.gust(2, 60), 2);
        Due.due("count(1)", x.count(1), 0);
        Due.due("count(4)", x.count(4), 4);
    }

    private static void gustOddHalves() {
        TentPegs x = new TentPegs();
        x.tent(4);
        x.peg(1, 0, 5, 5);
        // 25, 12, 0, 12: 13 come behind (1 holds just 25), 12 ahead (3 has 24, holds 20).
        gone(x, 0, 25, 0, 3, 1, 2);
        x.peg(3, 0, 6, 4);
        gone(x, 0, 25, 0);
        x.peg(1, 0, 6, 4);
        gone(x, 0, 25, 0, 1, 3, 2);
        // The most too much goes first, not the least peg.
        x.tent(4);
        x.peg(1, 0, 1, 1);
        x.peg(0, 0, 2, 9);
        gone(x, 0, 24, 1, 0, 3, 2);
    }

    private static void gustOnGonePegs() {
        TentPegs x = new TentPegs();
        x.tent(4);
        x.stand(0, false);
        gone(x, 0, 40);
        gone(x, 0, 42, 1, 3, 2);
        x.stand(1, false);
        // 0 and 1 are gone: of 3's 21 both parts come to 2.
        gone(x, 0, 42, 3, 2);
        x.peg(2, 0, 7, 3);
        gone(x, 0, 42, 3);
    }

    private static void gustZipped() {
        TentPegs x = new TentPegs();
        x.tent(4);
        x.peg(1, 5, 5, 4);
        // 1 holds 36 with both beside it, 33 with one, 30 with none; by 2: 17, 35, 17, 0.
        gone(x, 2, 36);
        x.peg(0, 0, 1, 1);
        // 0 goes: 9 come to 1, that holds 33 now and has 44.
        gone(x, 2, 35, 0, 1, 2, 3);
        x.peg(0, 0, 4, 4);
        x.peg(2, 0, 9, 9);
        x.peg(3, 0, 9, 9);
        // 18 on 0: 2 too much; it goes, 9 to 1: 45 on 33.
        gone(x, 2, 36, 0, 1);
        x.peg(1, 5, 8, 4);
        gone(x, 2, 36, 0);
    }

    private static void gustRefused() {
        TentPegs x = new TentPegs();
        x.stand(0, false);
        long before = Due.all(x);
        int[][] told = {{-1, 5}, {8, 5}, {LOW, 5}, {HIGH, 5}, {0, -1}, {0, 61}, {0, LOW}, {0, HIGH}};
        for (int[] t : told) {
            Due.due("gust", x.gust(t[0], t[1]), TentPegs.BAD);
        }
        Due.due("all after BAD gusts", Due.all(x), before);
        Due.due("gust(7, 60)", x.gust(7, 60), 7);
        before = Due.all(x);
        Due.due("gust(0, 0)", x.gust(0, 0), TentPegs.NO);
        Due.due("gust(8, 0)", x.gust(8, 0), TentPegs.BAD);
        Due.due("all after NO", Due.all(x), before);
        x.stand(3, true);
        Due.due("one stands", x.gust(0, 0), TentPegs.NO);
        x.stand(4, true);
        Due.due("two stand", x.gust(0, 0), 0);
        Due.refused(x, told.length + 1, 2, 0);
    }

    private static void stand() {
        TentPegs x = new TentPegs();
        x.tent(3);
        Due.due("stand(2, true)", x.stand(2, true), TentPegs.NO);
        Due.due("stand(2, false)", x.stand(2, false), 1);
        Due.due("of(2, 4)", x.of(2, 4), 0);
        Due.due("of(1, 4)", x.of(1, 4), 1);
        Due.due("stand(2, false)", x.stand(2, false), TentPegs.NO);
        Due.due("stand(2, true)", x.stand(2, true), 1);
        Due.due("of(2, 4)", x.of(2, 4), 1);
        Due.due("count(4)", x.count(4), 2);
        for (int peg : new int[] {-1, 3, 32, LOW, HIGH}) {
            Due.due("stand", x.stand(peg, true), TentPegs.BAD);
            Due.due("stand", x.stand(peg, false), TentPegs.BAD);
        }
        Due.due("count(4)", x.count(4), 2);
        Due.refused(x, 10, 2, 0);
    }

    private static void undo() {
        TentPegs x = new TentPegs();
        Due.due("undo()", x.undo(), TentPegs.NO);
        x.stand(1, false);
        x.gust(0, 0);
        x.gust(0, 60);
        Due.due("count(4)", x.count(4), 3);
        Due.due("count(1)", x.count(1), 0);
        x.wet(2);
        x.wall(1, true);
        x.odds(2, 9);
        x.peg(0, 1, 1, 1);
        x.image(0);
        x.type('a');
        x.chance(0);
        Due.due("what is told leaves it", x.count(4), 3);
        Due.due("undo()", x.undo(), 1);
        Due.due("count(1)", x.count(1), 7);
        Due.due("undo()", x.undo(), 1);
        Due.due("count(1)", x.count(1), 7);
        Due.due("undo()", x.undo(), 1);
        Due.due("count(1)", x.count(1), 8);
        Due.due("undo()", x.undo(), TentPegs.NO);
        Due.due("count(2)", x.count(2), 2);
        Due.due("count(3)", x.count(3), 2);
        Due.due("of(0, 0)", x.of(0, 0), 1);
        Due.due("odds(2, 1)", x.odds(2, 1), 9);
        Due.refused(x, 0, 2, 0);
    }

    private static void undoTen() {
        TentPegs x = new TentPegs();
        for (int i = 0; i < 12; i++) {
            Due.due("count(4)", x.count(4), Math.min(i, 10));
            x.stand(i % 8, i >= 8);
        }
        // The two oldest are forgotten: all that are drawn behind them come back.
        for (int i = 11; i >= 2; i--) {
            Due.due("stands", x.of(i % 8, 4), i >= 8 ? 1 : 0);
            Due.due("undo()", x.undo(), 1);
            Due.due("stands", x.of(i % 8, 4), i >= 8 ? 0 : 1);
        }
        Due.due("undo()", x.undo(), TentPegs.NO);
        Due.due("count(1)", x.count(1), 6);
        Due.due("of(0, 4)", x.of(0, 4), 0);
        Due.due("of(1, 4)", x.of(1, 4), 0);
        Due.due("of(2, 4)", x.of(2, 4), 1);
    }

    private static void of() {
        TentPegs x = new TentPegs();
        int[] dry = {9, 13, 19, 9, 5, 19};
        int[] damp = {9, 13, 19, 5, 3, 19};
        int[] soaked = {9, 13, 19, 0, 0, 19};
        for (int kind = 0; kind <= 5; kind++) {
            x.peg(2, kind, 3, 3);
            x.wet(0);
            Due.due("dry " + kind, x.of(2, 3), dry[kind]);
            x.wet(2);
            Due.due("damp " + kind, x.of(2, 3), damp[kind]);
            x.wet(9);
            Due.due("soaked " + kind, x.of(2, 3), soaked[kind]);
        }
        x.peg(2, 3, 2, 9);
        Due.due("just none", x.of(2, 3), 0);
        x.wet(8);
        Due.due("loosened", x.of(2, 3), 2);
        x.peg(2, 4, 1, 7);
        Due.due("drawn", x.of(2, 3), 0);
        x.peg(2, 5, 0, 0);
        Due.due("zipped in nothing", x.of(2, 3), 6);
        x.peg(2, 1, 9, 9);
        Due.due("the most", x.of(2, 3), 121);
        x.stand(2, false);
        Due.due("gone holds as it would", x.of(2, 3), 121);
        Due.due("of(2, 4)", x.of(2, 4), 0);
        Due.due("of(2, 5)", x.of(2, 5), 2);
    }

    private static void ofZipped() {
        TentPegs x = new TentPegs();
        x.peg(0, 5, 3, 3);
        x.peg(7, 5, 3, 3);
        Due.due("both beside", x.of(0, 3), 19);
        x.stand(1, false);
        Due.due("one beside", x.of(0, 3), 16);
        x.stand(7, false);
        Due.due("none beside", x.of(0, 3), 13);
        x.stand(1, true);
        Due.due("one behind", x.of(0, 3), 16);
        Due.due("round", x.of(7, 3), 19);
        x.stand(6, false);
        Due.due("round, one", x.of(7, 3), 16);
        x.tent(2);
        x.peg(1, 5, 3, 3);
        Due.due("the other is both", x.of(1, 3), 19);
        x.stand(1, false);
        Due.due("though gone", x.of(1, 3), 19);
        x.stand(0, false);
        Due.due("the other gone", x.of(1, 3), 13);
    }

    private static void ofBad() {
        TentPegs x = new TentPegs();
        x.tent(5);
        int[][] told = {{-1, 0}, {5, 0}, {LOW, 0}, {HIGH, 0}, {0, -1}, {0, 6}, {0, LOW}, {0, HIGH}, {5, 6}};
        for (int[] t : told) {
            Due.due("of", x.of(t[0], t[1]), TentPegs.BAD);
        }
        Due.refused(x, told.length, 0, 0);
    }

    private static void pulls(TentPegs x, int way, int strength, int... byPeg) {
        for (int k = 0; k < byPeg.length; k++) {
            Due.due("pull(" + k + ", " + way + ", " + strength + ")", x.pull(k, way, strength), byPeg[k]);
        }
    }

    private static void pull() {
        TentPegs x = new TentPegs();
        pulls(x, 0, 7, 7, 5, 3, 1, 0, 1, 3, 5);
        pulls(x, 3, 60, 15, 30, 45, 60, 45, 30, 15, 0);
        pulls(x, 7, 3, 2, 1, 0, 0, 0, 1, 2, 3);
        pulls(x, 5, 0, 0, 0, 0, 0, 0, 0, 0, 0);
        x.stand(1, false);
        pulls(x, 0, 7, 7, 0, 3, 1, 0, 1, 3, 5);
        x.tent(3);
        pulls(x, 1, 20, 15, 15, 0);
        pulls(x, 6, 20, 10, 0, 15);
    }

    private static void pullByWalls() {
        TentPegs x = new TentPegs();
        x.wall(0, true);
        pulls(x, 0, 7, 3, 2, 1, 0, 0, 0, 1, 2);
        pulls(x, 1, 7, 6, 8, 6, 4, 2, 0, 2, 4);
        pulls(x, 7, 7, 6, 4, 2, 0, 2, 4, 6, 8);
        pulls(x, 2, 7, 3, 5, 7, 5, 3, 1, 0, 1);
        pulls(x, 4, 60, 0, 15, 30, 45, 60, 45, 30, 15);
        pulls(x, 1, 60, 56, 75, 56, 37, 18, 0, 18, 37);
        x.wall(2, true);
        pulls(x, 1, 7, 6, 8, 6, 4, 2, 0, 2, 4);
        x.wall(1, true);
        pulls(x, 1, 7, 2, 3, 2, 1, 0, 0, 0, 1);
        pulls(x, 0, 7, 3, 2, 1, 0, 0, 0, 1, 2);
        pulls(x, 3, 3, 0, 1, 2, 3, 2, 1, 0, 0);
    }

    private static void pullBad() {
        TentPegs x = new TentPegs();
        x.tent(4);
        int[][] told = {{-1, 0, 0}, {4, 0, 0}, {HIGH, 0, 0}, {0, -1, 0}, {0, 8, 0}, {0, LOW, 0},
            {0, 0, -1}, {0, 0, 61}, {0, 0, HIGH}};
        for (int[] t : told) {
            Due.due("pull", x.pull(t[0], t[1], t[2]), TentPegs.BAD);
        }
        Due.refused(x, told.length, 0, 0);
        for (int k = 0; k < 4; k++) {
            x.stand(k, false);
        }
        Due.due("pull in a lost tent", x.pull(0, 0, 60), 0);
    }
}
