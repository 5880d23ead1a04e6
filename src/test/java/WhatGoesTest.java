/** Promises 15 to 26: what goes, and what is asked of many gusts. */
public final class WhatGoesTest {
    private static final int LOW = Integer.MIN_VALUE, HIGH = Integer.MAX_VALUE;
    private static final int NONE = TentPegs.NONE, ASKED = -10, SHORT = -5;

    public static void main(String[] args) {
        first();
        firstBad();
        lost();
        bears();
        bearsByWalls();
        bearsBad();
        twofold();
        twofoldOfLikeOnes();
        twofoldNone();
        strokes();
        strokesByKinds();
        strokesBad();
        chance();
        turn();
        turnByWalls();
        worth();
        refusedFractions();
        setUp();
        setUpZipped();
        setUpBad();
        morning();
        morningOfMore();
        morningBad();
        lent();
        lentBad();
        pence();
        Due.end("WhatGoesTest");
    }

    /** Two over against each other: 0 by north holds 10, 1 by south holds 20. */
    private static TentPegs weakAndStrong() {
        TentPegs x = new TentPegs();
        x.tent(2);
        x.peg(0, 0, 2, 5);
        x.peg(1, 0, 4, 5);
        return x;
    }

    private static void first() {
        TentPegs x = weakAndStrong();
        long before = Due.all(x);
        Due.due("first", x.first(0, 10, NONE), 0);
        Due.due("first", x.first(0, 10, 0), SHORT);
        Due.due("first", x.first(0, 20, NONE), 1);
        Due.due("first", x.first(0, 20, 0), 0);
        Due.due("first", x.first(0, 20, 1), SHORT);
        Due.due("first", x.first(0, 20, HIGH), SHORT);
        Due.due("first", x.first(0, 21, NONE), 2);
        Due.due("first", x.first(0, 21, 1), 1);
        Due.due("first", x.first(4, 21, 0), 1);
        Due.due("first", x.first(4, 21, 1), 0);
        Due.due("all after first", Due.all(x), before);
        x.stand(0, false);
        Due.due("one stands", x.first(4, 21, NONE), 1);
        x.stand(1, false);
        Due.due("none stands", x.first(4, 60, NONE), 0);
        Due.refused(x, 0, 0, 0);
    }

    private static void firstBad() {
        TentPegs x = new TentPegs();
        int[][] told = {{-1, 0, 0}, {8, 0, 0}, {HIGH, 0, 0}, {0, -1, 0}, {0, 61, 0}, {0, LOW, 0}, {0, 0, -2}, {0, 0, LOW}};
        for (int[] t : told) {
            Due.due("first", x.first(t[0], t[1], t[2]), ASKED);
        }
        Due.refused(x, told.length, 0, 0);
    }

    private static void lost() {
        TentPegs x = weakAndStrong();
        long before = Due.all(x);
        Due.due("lost(0, 0, 60)", x.lost(0, 0, 60), 0);
        Due.due("lost(1, 0, 10)", x.lost(1, 0, 10), 0);
        Due.due("lost(1, 0, 11)", x.lost(1, 0, 11), 1);
        Due.due("lost(0, 4, 21)", x.lost(0, 4, 21), 1);
        Due.due("lost(1, 4, 60)", x.lost(1, 4, 60), 0);
        Due.due("all after lost", Due.all(x), before);
        x.stand(1, false);
        Due.due("already gone", x.lost(1, 0, 10), 0);
        Due.due("the last one", x.lost(0, 0, 0), 1);
        x = new TentPegs();
        Due.due("zipped go without it", x.lost(3, 0, 20), 0);
        int[][] told = {{-1, 0, 0}, {8, 0, 0}, {0, -1, 0}, {0, 8, 0}, {0, 0, -1}, {0, 0, 61}, {LOW, HIGH, HIGH}};
        for (int[] t : told) {
            Due.due("lost", x.lost(t[0], t[1], t[2]), TentPegs.BAD);
        }
        Due.refused(x, told.length, 0, 0);
        x.tent(4);
        x.peg(1, 5, 5, 4);
        // 1 holds 33 with one beside it.
        Due.due("lost(0, 2, 33)", x.lost(0, 2, 33), 0);
        Due.due("lost(0, 2, 34)", x.lost(0, 2, 34), 1);
        Due.due("lost(3, 2, 36)", x.lost(3, 2, 36), 0);
    }

    private static void bears() {
        TentPegs x = weakAndStrong();
        int[] by = {10, 14, 21, 27, 20, 27, 21, 14};
        for (int way = 0; way < 8; way++) {
            Due.due("bears(" + way + ")", x.bears(way), by[way]);
        }
        Due.due("bears(NONE)", x.bears(NONE), 0);
        x.peg(0, 0, 5, 5);
        Due.due("bears(NONE)", x.bears(NONE), 4);
        x.peg(0, 0, 4, 5);
        Due.due("of like ones the first", x.bears(NONE), 0);
        x.stand(0, false);
        Due.due("bears(0)", x.bears(0), 60);
        Due.due("bears(4)", x.bears(4), 20);
        Due.due("bears(NONE)", x.bears(NONE), 4);
        x.stand(1, false);
        Due.due("none stands", x.bears(4), 60);
        Due.due("none stands", x.bears(NONE), 0);
        x.tent(8);
        x.peg(5, 0, 0, 9);
        Due.due("holds nothing", x.bears(5), 0);
        Due.due("over against it", x.bears(1), 20);
        Due.due("3 off it", x.bears(2), 3);
        Due.due("bears(NONE)", x.bears(NONE), 5);
        x.peg(5, 1, 9, 9);
        for (int k = 0; k < 8; k++) {
            x.peg(k, 1, 9, 9);
        }
        Due.due("no more than 60", x.bears(5), 60);
        Due.due("no more than 60", x.bears(NONE), 0);
    }

    private static void bearsByWalls() {
        TentPegs x = new TentPegs();
        x.wall(0, true);
        Due.due("behind a wall", x.bears(0), 41);
        Due.due("beside it", x.bears(1), 16);
        Due.due("beside it", x.bears(7), 16);
        Due.due("off it", x.bears(2), 20);
        Due.due("bears(NONE)", x.bears(NONE), 1);
        x.wall(1, true);
        Due.due("behind both", x.bears(1), 41);
        Due.due("beside one", x.bears(2), 16);
        Due.due("bears(NONE)", x.bears(NONE), 2);
        x.wall(0, false);
        Due.due("bears(NONE)", x.bears(NONE), 0);
    }

    private static void bearsBad() {
        TentPegs x = new TentPegs();
        for (int way : new int[] {-2, 8, LOW, HIGH}) {
            Due.due("bears", x.bears(way), ASKED);
        }
        Due.refused(x, 4, 0, 0);
    }

    private static void twofold() {
        TentPegs x = weakAndStrong();
        long before = Due.all(x);
        Due.due("how much by one", x.twofold(1, NONE), 15);
        Due.due("which one", x.twofold(1, 0), 0);
        Due.due("not so many", x.twofold(1, 1), SHORT);
        Due.due("how much by two", x.twofold(2, NONE), 15);
        Due.due("the first", x.twofold(2, 0), 0);
        Due.due("the second", x.twofold(2, 1), 1);
        Due.due("not so many", x.twofold(2, 2), SHORT);
        Due.due("not so many", x.twofold(2, HIGH), SHORT);
        Due.due("all after twofold", Due.all(x), before);
        x.tent(5);
        x.peg(1, 0, 1, 9);
        x.peg(3, 0, 2, 6);
        // By 6 peg 3 holds 12, by 1 peg 1 holds 9: 18 and 13 when doubled.
        Due.due("two weak ones", x.twofold(2, NONE), 13);
        Due.due("the first", x.twofold(2, 0), 1);
        Due.due("the second", x.twofold(2, 1), 3);
        Due.due("the weakest", x.twofold(1, NONE), 12);
        Due.due("it is", x.twofold(1, 0), 1);
        for (int[] t : new int[][] {{0, 0}, {3, 0}, {-1, 0}, {HIGH, NONE}, {1, -2}, {2, LOW}}) {
            Due.due("twofold", x.twofold(t[0], t[1]), ASKED);
        }
        Due.refused(x, 6, 0, 0);
    }

    private static void twofoldOfLikeOnes() {
        TentPegs x = new TentPegs();
        Due.due("of like ones", x.twofold(1, 0), 0);
        Due.due("of like ones", x.twofold(2, 1), 1);
        x.stand(0, false);
        x.stand(2, false);
        Due.due("those that stand", x.twofold(1, 0), 1);
        Due.due("those that stand", x.twofold(2, 0), 1);
        Due.due("those that stand", x.twofold(2, 1), 3);
        x.tent(2);
        // Buried in 4 holds 14, doubled 6: it is made so all the same.
        x.peg(0, 2, 2, 2);
        x.peg(1, 2, 2, 2);
        Due.due("in place of BURIED", x.twofold(1, NONE), 6);
        Due.due("in place of BURIED", x.twofold(2, NONE), 6);
        x.peg(1, 0, 2, 2);
        Due.due("the other", x.twofold(1, 0), 1);
        Due.due("the other", x.twofold(1, NONE), 6);
        // 0 and 2 are best: lesser pairs come ahead of it, 1 and 2 behind.
        x.tent(4);
        x.peg(0, 0, 3, 3);
        x.peg(2, 0, 3, 3);
        Due.due("the pair", x.twofold(2, 0), 0);
        Due.due("the pair", x.twofold(2, 1), 2);
        Due.due("the pair", x.twofold(2, NONE), 13);
        Due.due("one of a pair", x.twofold(1, 0), 0);
        Due.due("one of a pair", x.twofold(1, NONE), 9);
        // 0 and 3 as good as 1 and 2, for 4 holds too little: the lesser peg is ahead.
        x.tent(5);
        x.peg(4, 2, 0, 0);
        Due.due("lesser ahead", x.twofold(2, 0), 0);
        Due.due("lesser ahead", x.twofold(2, 1), 1);
    }

    private static void twofoldNone() {
        TentPegs x = new TentPegs();
        x.tent(2);
        x.stand(0, false);
        Due.due("one stands", x.twofold(1, 0), 1);
        Due.due("one stands", x.twofold(1, NONE), 30);
        for (int i : new int[] {NONE, 0, 1, 2, HIGH}) {
            Due.due("one stands", x.twofold(2, i), NONE);
        }
        Due.due("BAD ahead", x.twofold(2, -2), ASKED);
        x.stand(1, false);
        Due.due("none stands", x.twofold(1, 0), NONE);
        Due.due("none stands", x.twofold(1, 5), NONE);
        Due.refused(x, 1, 0, 0);
    }

    private static void strokes() {
        TentPegs x = new TentPegs();
        long before = Due.all(x);
        int[] depths = {8, 6, 5, 5, 5, 5, 5, 6};
        Due.due("strokes", x.strokes(0, 30, NONE), 5);
        for (int k = 0; k < 8; k++) {
            Due.due("depth of " + k, x.strokes(0, 30, k), depths[k]);
        }
        Due.due("as deep as may be", x.strokes(0, 36, NONE), 8);
        Due.due("as deep as may be", x.strokes(0, 36, 0), 9);
        Due.due("too much", x.strokes(0, 37, NONE), NONE);
        Due.due("too much", x.strokes(0, 37, 0), NONE);
        Due.due("too much", x.strokes(0, 37, 4), NONE);
        Due.due("none needed", x.strokes(0, 20, NONE), 0);
        Due.due("none needed", x.strokes(0, 20, 3), 5);
        Due.due("all after strokes", Due.all(x), before);
        x.peg(4, 0, 9, 0);
        Due.due("over against", x.strokes(0, 30, NONE), 5);
        Due.due("its depth", x.strokes(0, 30, 4), 9);
        x.stand(0, false);
        Due.due("gone ones are not driven", x.strokes(0, 40, NONE), 6);
        Due.due("gone ones stay", x.strokes(0, 40, 0), 5);
        Due.due("beside", x.strokes(0, 40, 7), 8);
        x.wall(0, true);
        Due.due("behind a wall", x.strokes(0, 40, NONE), 0);
        Due.due("one holds nothing", x.strokes(2, 20, NONE), NONE);
        x.peg(4, 0, 5, 4);
        Due.due("off a wall", x.strokes(2, 20, NONE), 0);
        Due.due("beside a wall", x.strokes(1, 20, 1), 7);
    }

    private static void strokesByKinds() {
        TentPegs x = new TentPegs();
        x.tent(2);
        x.wet(9);
        x.peg(0, 4, 3, 5);
        // Drawn: half of 45 less 18, cut up, is 14 at depth 9; 11 at 8 (of 22).
        Due.due("drawn", x.strokes(0, 12, 0), 9);
        Due.due("drawn", x.strokes(0, 14, NONE), 6);
        Due.due("drawn", x.strokes(0, 11, NONE), 5);
        Due.due("drawn", x.strokes(0, 15, NONE), NONE);
        x.peg(0, 5, 3, 3);
        // Zipped: 5 in 15 are 22, and 6.
        Due.due("zipped", x.strokes(0, 28, NONE), 2);
        Due.due("zipped", x.strokes(0, 29, NONE), 3);
        x.stand(1, false);
        Due.due("zipped to none", x.strokes(0, 28, NONE), 4);
        x.peg(0, 2, 0, 1);
        Due.due("buried", x.strokes(0, 19, 0), 9);
        Due.due("buried", x.strokes(0, 10, 0), 0);
    }

    private static void strokesBad() {
        TentPegs x = new TentPegs();
        x.tent(3);
        int[][] told = {{-1, 0, 0}, {8, 0, 0}, {0, -1, 0}, {0, 61, 0}, {0, 0, 3}, {0, 0, -2}, {0, 60, 3}, {LOW, HIGH, LOW}};
        for (int[] t : told) {
            Due.due("strokes", x.strokes(t[0], t[1], t[2]), ASKED);
        }
        Due.refused(x, told.length, 0, 0);
    }

    private static void fraction(TentPegs x, int above, int below) {
        Due.due("part(0)", x.part(0), above);
        Due.due("part(1)", x.part(1), below);
    }

    private static void chance() {
        TentPegs x = weakAndStrong();
        Due.due("chance(10)", x.chance(10), 1);
        fraction(x, 1, 1);
        Due.due("chance(11)", x.chance(11), 1);
        fraction(x, 7, 8);
        Due.due("chance(15)", x.chance(15), 1);
        fraction(x, 5, 8);
        Due.due("chance(21)", x.chance(21), 1);
        fraction(x, 1, 2);
        Due.due("chance(27)", x.chance(27), 1);
        fraction(x, 1, 4);
        Due.due("chance(60)", x.chance(60), 1);
        fraction(x, 0, 1);
        x.odds(0, 20);
        x.odds(4, 0);
        Due.due("chance(11)", x.chance(11), 1);
        fraction(x, 3, 13);
        Due.due("chance(0)", x.chance(0), 1);
        fraction(x, 1, 1);
        for (int s : new int[] {-1, 61, LOW, HIGH}) {
            Due.due("chance", x.chance(s), TentPegs.BAD);
        }
        fraction(x, 1, 1);
        Due.refused(x, 4, 0, 0);
    }

    private static void turn() {
        TentPegs x = weakAndStrong();
        long before = x.count(0) + x.count(1) + x.count(3) + x.count(4);
        Due.due("of like ones the least", x.turn(15), 0);
        fraction(x, 5, 8);
        for (int way = 0; way < 8; way++) {
            x.odds(way, 0);
        }
        x.odds(0, 3);
        x.odds(1, 1);
        // By r the weak one stands by r; at 11 it goes by its own way alone.
        Due.due("turn(10)", x.turn(10), 0);
        fraction(x, 1, 1);
        Due.due("turn(11)", x.turn(11), 2);
        fraction(x, 1, 1);
        // At 21: the strong one goes by its way, the weak one by its own and those beside.
        Due.due("turn(21)", x.turn(21), 3);
        fraction(x, 1, 1);
        // At 24 the weak one goes up to 2 off, the strong one by its way alone: neither at 3, but 0 is 3 off it.
        Due.due("turn(24)", x.turn(24), 3);
        fraction(x, 3, 4);
        Due.due("turn(28)", x.turn(28), 0);
        fraction(x, 0, 1);
        Due.due("nothing changes", x.count(0) + x.count(1) + x.count(3) + x.count(4), before);
        Due.due("of(0, 5)", x.of(0, 5), 0);
        x.tent(7);
        for (int way = 0; way < 8; way++) {
            x.odds(way, way == 6 ? 5 : 0);
        }
        // Seven leave way 7 bare; turned by 7 it is 6.
        Due.due("turn(21)", x.turn(21), 7);
        fraction(x, 1, 1);
        Due.due("turn(27)", x.turn(27), 7);
        fraction(x, 1, 1);
        Due.due("turn(28)", x.turn(28), 0);
        fraction(x, 0, 1);
        Due.due("turn(-1)", x.turn(-1), TentPegs.BAD);
        Due.due("turn(61)", x.turn(61), TentPegs.BAD);
        Due.refused(x, 2, 0, 0);
    }

    private static void turnByWalls() {
        TentPegs x = weakAndStrong();
        x.stand(1, false);
        for (int way = 0; way < 8; way++) {
            x.odds(way, way == 5 || way == 3 ? 1 : 0);
        }
        x.wall(5, true);
        // Walls stay where they are: by 5 it is 10 of 21, by 3 the weak one must be 2 off.
        Due.due("turn(21)", x.turn(21), 0);
        fraction(x, 1, 1);
        x.wall(5, false);
        x.stand(0, false);
        x.stand(1, true);
        x.wall(3, true);
        // By 5 the strong one, over against the weak one, must be 1 off up to 27, then 2 off.
        Due.due("turn(27)", x.turn(27), 0);
        fraction(x, 1, 1);
        Due.due("turn(28)", x.turn(28), 3);
        fraction(x, 1, 1);
        Due.due("turn(40)", x.turn(40), 3);
        fraction(x, 1, 1);
    }

    private static void worth() {
        TentPegs x = new TentPegs();
        long before = x.count(3);
        Due.due("worth(0, 18)", x.worth(0, 18), 1);
        fraction(x, -1, 4);
        Due.due("worth(0, 16)", x.worth(0, 16), 1);
        fraction(x, 0, 1);
        Due.due("worth(0, 30)", x.worth(0, 30), 1);
        fraction(x, 1, 8);
        x.odds(3, 9);
        Due.due("worth(3, 41)", x.worth(3, 41), 1);
        fraction(x, 9, 16);
        Due.due("worth(4, 18)", x.worth(4, 18), 1);
        fraction(x, -5, 8);
        Due.due("count(3)", x.count(3), before);
        x.wall(3, true);
        Due.due("it is there", x.worth(3, 41), 1);
        fraction(x, 0, 1);
        // A wall by 2 shelters 2; of its sides 3 has its own, 1 is no longer free.
        Due.due("worth(2, 18)", x.worth(2, 18), 1);
        fraction(x, 0, 1);
        int[][] told = {{-1, 0}, {8, 0}, {0, -1}, {0, 61}, {LOW, HIGH}};
        for (int[] t : told) {
            Due.due("worth", x.worth(t[0], t[1]), TentPegs.BAD);
        }
        Due.refused(x, told.length, 0, 0);
    }

    private static void refusedFractions() {
        TentPegs x = new TentPegs();
        x.chance(18);
        x.worth(0, 18);
        for (int way = 0; way < 8; way++) {
            x.odds(way, 0);
        }
        long before = Due.all(x);
        Due.due("chance(0)", x.chance(0), TentPegs.NO);
        Due.due("turn(0)", x.turn(0), TentPegs.NO);
        Due.due("worth(0, 0)", x.worth(0, 0), TentPegs.NO);
        Due.due("chance(61)", x.chance(61), TentPegs.BAD);
        Due.due("turn(61)", x.turn(61), TentPegs.BAD);
        Due.due("worth(8, 0)", x.worth(8, 0), TentPegs.BAD);
        Due.due("all after refusals", Due.all(x), before);
        fraction(x, -1, 4);
        Due.refused(x, 3, 3, 0);
    }

    private static void orders(TentPegs x, int c, int way, int strength, int count, int... order) {
        Due.due("setUp(" + c + ", ..)", x.setUp(c, way, strength, NONE), count);
        for (int i = 0; i < order.length; i++) {
            Due.due("setUp(" + c + ", .., " + i + ")", x.setUp(c, way, strength, i), order[i]);
        }
    }

    private static void setUp() {
        TentPegs x = new TentPegs();
        orders(x, 1, 0, 0, 0, NONE, NONE);
        orders(x, 2, 0, 20, 40320, 0, 1, 2, 3, 4, 5, 6, 7, SHORT);
        orders(x, 4, 0, 21, 0, NONE, NONE, NONE, NONE, NONE, NONE, NONE, NONE, NONE);
        Due.due("whatever i is", x.setUp(4, 0, 21, HIGH), NONE);
        Due.due("not so many", x.setUp(4, 0, 20, HIGH), SHORT);
        x.tent(2);
        orders(x, 4, 0, 20, 2, 0, 1, SHORT);
        orders(x, 2, 0, 20, 2, 0, 1, SHORT);
        orders(x, 1, 2, 0, 0, NONE);
        x.tent(3);
        orders(x, 2, 0, 20, 6, 0, 1, 2, SHORT);
    }

    private static void setUpZipped() {
        TentPegs x = new TentPegs();
        x.tent(4);
        x.peg(1, 5, 5, 4);
        // By 2: 1 needs one beside it for 33, both for 36; 3 is over against.
        orders(x, 2, 2, 30, 24, 0, 1, 2, 3);
        orders(x, 2, 2, 33, 20, 0, 1, 2, 3);
        orders(x, 2, 2, 36, 12, 0, 2, 1, 3, SHORT);
        orders(x, 3, 2, 36, 12, 0, 1, 2, 3);
        orders(x, 4, 2, 36, 24, 0, 1, 2, 3);
        orders(x, 2, 2, 37, 0, NONE);
        long before = Due.all(x);
        x.stand(0, false);
        x.stand(1, false);
        orders(x, 2, 2, 36, 12, 0, 2, 1, 3, SHORT);
        x.undo();
        x.undo();
        Due.due("all after setUp", Due.all(x), before);
    }

    private static void setUpBad() {
        TentPegs x = new TentPegs();
        int[][] told = {{0, 0, 0, 0}, {5, 0, 0, 0}, {HIGH, 0, 0, 0}, {LOW, 0, 0, 0}, {1, -1, 0, 0}, {1, 8, 0, 0},
            {1, 0, -1, 0}, {1, 0, 61, 0}, {1, 0, 0, -2}, {2, 0, 0, LOW}};
        for (int[] t : told) {
            Due.due("setUp", x.setUp(t[0], t[1], t[2], t[3]), ASKED);
        }
        Due.refused(x, told.length, 0, 0);
    }

    private static void found(TentPegs x, int found, int count, int first) {
        Due.due("morning(" + found + ", 0)", x.morning(found, 0), count);
        Due.due("morning(" + found + ", 1)", x.morning(found, 1), first);
    }

    private static void morning() {
        TentPegs x = weakAndStrong();
        long before = Due.all(x);
        found(x, 0, 162, 0);
        // By 0 of 11 to 20, by 1 and 7 of 15 to 21: then 1 has all of it, and holds.
        found(x, 1, 24, 11);
        found(x, 2, 0, NONE);
        found(x, 3, 488 - 162 - 24, 21);
        Due.due("all after morning", Due.all(x), before);
    }

    private static void morningOfMore() {
        TentPegs x = weakAndStrong();
        x.stand(0, false);
        // Just 1: by 4 above 20 (40), 3 and 5 above 27 (33 each), 2 and 6 above 41 (19 each).
        found(x, 2, 40 + 66 + 38, 242);
        found(x, 0, 488 - 144, 0);
        x.wall(4, true);
        // By 4 above 41 (19), by 3 and 5 beside it above 22: 23 and 5 are 28, 21 are held (38 each).
        found(x, 2, 19 + 76 + 38, 242);
        x.wall(4, false);
        x.stand(1, false);
        found(x, 0, 488, 0);
        Due.due("gone", x.morning(1, 0), ASKED);
        x.tent(8);
        x.peg(7, 0, 0, 0);
        for (int k = 0; k < 7; k++) {
            x.peg(k, 1, 9, 9);
        }
        // 7 holds nothing: by its own way 60 take it, 59 by those 1 and 2 off, 57 by those 3 off.
        found(x, 128, 60 + 4 * 59 + 2 * 57, 2);
    }

    private static void morningBad() {
        TentPegs x = new TentPegs();
        x.tent(5);
        x.stand(2, false);
        int[][] told = {{4, 0}, {5, 0}, {32, 0}, {-1, 0}, {LOW, 0}, {HIGH, 0}, {31, 1}, {0, -1}, {0, 2}, {0, HIGH}};
        for (int[] t : told) {
            Due.due("morning", x.morning(t[0], t[1]), ASKED);
        }
        Due.refused(x, told.length, 0, 0);
        Due.due("those that stand", x.morning(27, 0) > 0 ? 1 : 0, 1);
    }

    private static void lends(TentPegs x, int way, int strength, int many, int few, int balance) {
        Due.due("lent(.., 0)", x.lent(way, strength, 0), many);
        Due.due("lent(.., 1)", x.lent(way, strength, 1), few);
        Due.due("lent(.., 2)", x.lent(way, strength, 2), balance);
    }

    private static void lent() {
        TentPegs x = weakAndStrong();
        long before = Due.all(x);
        lends(x, 0, 20, 4, 2, 2);
        lends(x, 0, 30, 4, 4, 2);
        lends(x, 0, 31, 4, 5, 1);
        lends(x, 0, 45, 4, 7, 1);
        lends(x, 0, 46, 4, 8, 1);
        lends(x, 4, 20, 2, 0, 2);
        lends(x, 2, 20, 2, 0, 2);
        lends(x, 2, 30, 1, 1, 2);
        lends(x, 2, 31, 1, 1, 2);
        lends(x, 2, 32, 0, 2, 1);
        Due.due("all after lent", Due.all(x), before);
        // 18 inches are more than 10, but none of them makes it hold.
        x.peg(0, 0, 9, 0);
        x.peg(1, 0, 9, 5);
        lends(x, 0, 5, 9, 1, 1);
        x.stand(1, false);
        lends(x, 0, 5, 0, 1, 0);
        lends(x, 4, 5, 9, 0, 1);
        x.stand(0, false);
        lends(x, 0, 60, 0, 0, 0);
        // 15 inches, needs of 5, 4, 3, 2, 0, 2, 3, 4: there are 14 in 0, 2, 2, 3, 3 and 4.
        x.tent(8);
        int[] depths = {0, 0, 0, 0, 6, 3, 3, 3};
        for (int k = 0; k < 8; k++) {
            x.peg(k, k == 4 ? 0 : 1, depths[k], 4);
        }
        // Doubled in 4: 6, 12, 18 an inch; by 0 of 30: 30, 22, 15, 7, 0.
        lends(x, 0, 30, 6 + 1, 5 + 4 + 3 + 2 + 1, 6);
    }

    private static void lentBad() {
        TentPegs x = new TentPegs();
        int[][] told = {{-1, 0, 0}, {8, 0, 0}, {0, -1, 0}, {0, 61, 0}, {0, 0, -1}, {0, 0, 3}, {HIGH, LOW, HIGH}};
        for (int[] t : told) {
            Due.due("lent", x.lent(t[0], t[1], t[2]), ASKED);
        }
        Due.refused(x, told.length, 0, 0);
    }

    private static void pence() {
        TentPegs x = new TentPegs();
        Due.due("pence(0, 30, 2)", x.pence(0, 30, 2), 480);
        Due.due("pence(0, 0, 1)", x.pence(0, 0, 1), 8);
        Due.due("pence(0, 1, 20)", x.pence(0, 1, 20), 160);
        Due.due("ahead of any that goes", x.pence(3, 60, 20), 9600);
        x.wall(3, true);
        Due.due("behind a wall", x.pence(3, 60, 20), 4800);
        Due.due("beside a wall", x.pence(4, 60, 1), 600);
        x.wall(3, false);
        x.stand(0, false);
        x.stand(7, false);
        Due.due("one beside", x.pence(0, 30, 2), 22 * 2 * 6);
        x.tent(3);
        Due.due("between", x.pence(7, 20, 1), 45);
        for (int k = 0; k < 3; k++) {
            x.stand(k, false);
        }
        Due.due("none stands", x.pence(7, 20, 1), 0);
        int[][] told = {{-1, 0, 1}, {8, 0, 1}, {0, -1, 1}, {0, 61, 1}, {0, 0, 0}, {0, 0, 21}, {0, 0, LOW}, {0, 0, HIGH}};
        for (int[] t : told) {
            Due.due("pence", x.pence(t[0], t[1], t[2]), TentPegs.BAD);
        }
        Due.refused(x, told.length, 0, 0);
    }
}
