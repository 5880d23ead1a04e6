/** Promises 15 to 26: a test for each sentence that names a bound. */
public final class WhatGoesEdgesTest extends Edges {
    public static void main(String[] args) {
        first();
        lost();
        bears();
        least();
        twofold();
        twofoldOfLikeOnes();
        strokes();
        strokesDeeper();
        chance();
        turn();
        worth();
        setUp();
        setUpOrders();
        morning();
        morningFirst();
        lent();
        lentNeeds();
        pence();
        pounds();
        oneBehindAnother();
        Due.end("WhatGoesEdgesTest");
    }

    private static void first() {
        range("15: WAY", 0, 7, ASKED, (x, way) -> x.first(way, 1, NONE));
        range("15: STRENGTH", 0, 60, ASKED, (x, s) -> x.first(0, s, NONE));
        from("15: i", NONE, ASKED, Edges::muchTold, (x, i) -> x.first(0, 60, i));
        asks("15: how many, nothing changes", 2, Edges::weakAndStrong, x -> x.first(0, 21, NONE));
        asks("15: the i-th, nothing changes", 2, Edges::muchTold, x -> x.first(3, 21, 0));
        answers("15: none goes", 0, x -> x.first(0, 20, NONE));
        answers("15: STRENGTH 0 takes none", 0, x -> x.peg(0, 0, 0, 0), x -> x.first(0, 0, NONE));
        answers("15: all go", 8, x -> x.first(0, 21, NONE));
        answers("15: -5: none goes", SHORT, x -> x.first(0, 20, 0));
        answers("15: the last one", 0, Edges::weakAndStrong, x -> x.first(0, 20, 0));
        answers("15: -5: not so many", SHORT, Edges::weakAndStrong, x -> x.first(0, 20, 1));
        answers("15: the last one, when all go", 1, Edges::weakAndStrong, x -> x.first(0, 21, 1));
        answers("15: -5: not so many, when all go", SHORT, Edges::weakAndStrong, x -> x.first(0, 21, 2));
        answers("15: -5: far from so many", SHORT, Edges::weakAndStrong, x -> x.first(0, 21, HIGH));
        answers("15: -5: not so many as 8", SHORT, x -> x.first(0, 21, 8));
        answers("15: one STANDS", 1, Edges::strongAlone, x -> x.first(4, 21, NONE));
        answers("15: none STANDS", 0, Edges::drawAll, x -> x.first(0, 60, NONE));
        answers("15: none STANDS, the first", SHORT, Edges::drawAll, x -> x.first(0, 60, 0));
    }

    private static void lost() {
        range("16: PEG", 0, 4, BAD, (x, k) -> x.lost(k, 0, 1));
        range("16: PEG of 2", 0, 1, BAD, x -> x.tent(2), (x, k) -> x.lost(k, 0, 1));
        range("16: WAY", 0, 7, BAD, (x, way) -> x.lost(0, way, 1));
        range("16: STRENGTH", 0, 60, BAD, (x, s) -> x.lost(0, 0, s));
        asks("16: nothing changes", 1, Edges::weakAndStrong, x -> x.lost(1, 0, 11));
        answers("16: as much as it HOLDS", 0, Edges::weakAndStrong, x -> x.lost(1, 0, 10));
        answers("16: more than it HOLDS", 1, Edges::weakAndStrong, x -> x.lost(1, 0, 11));
        answers("16: 1 STANDS", 0, Edges::weakAndStrong, x -> x.lost(0, 0, 60));
        answers("16: already GONE", 0, Edges::strongAlone, x -> x.lost(0, 4, 20));
        answers("16: already GONE, the other one goes", 1, Edges::strongAlone, x -> x.lost(0, 4, 21));
        answers("16: the last one, by a GUST of 0", 1, Edges::strongAlone, x -> x.lost(1, 0, 0));
        answers("16: none STANDS already", 1, Edges::drawAll, x -> x.lost(0, 0, 0));
        answers("16: others HOLD less when zipped ones lose it: held", 0, Edges::zippedByEast, x -> x.lost(0, 2, 33));
        answers("16: others HOLD less when zipped ones lose it", 1, Edges::zippedByEast, x -> x.lost(0, 2, 34));
        answers("16: what it had comes to none", 0, Edges::weakAndStrong, x -> x.lost(0, 4, 20));
    }

    private static void bears() {
        from("17: WAY", NONE, ASKED, Edges::muchTold, (x, way) -> x.bears(way));
        range("17: a WAY", NONE, 7, ASKED, x -> { }, (x, way) -> x.bears(way));
        asks("17: nothing changes", 16, Edges::muchTold, x -> x.bears(3));
        answers("17: 0: a PEG HOLDS nothing", 0, x -> x.peg(7, 0, 0, 0), x -> x.bears(7));
        answers("17: a PEG HOLDS nothing over against it", 20, x -> x.peg(7, 0, 0, 0), x -> x.bears(3));
        answers("17: a PEG HOLDS 59", 59, x -> alone(x, 2, 7, 7), x -> x.bears(0));
        answers("17: a PEG HOLDS 60", 60, x -> alone(x, 1, 5, 8), x -> x.bears(0));
        answers("17: 60 at most", 60, x -> alone(x, 1, 9, 9), x -> x.bears(0));
        answers("17: 60 at most, over against", 60, x -> alone(x, 0, 0, 0), x -> x.bears(4));
        answers("17: 3 off: 3 by 4 is cut", 3, x -> alone(x, 0, 0, 0), x -> x.bears(3));
        answers("17: 1 off: 1 by 4 of 3 is cut", 1, x -> alone(x, 0, 0, 0), x -> x.bears(1));
        answers("17: none STANDS", 60, Edges::drawAll, x -> x.bears(0));
        answers("17: a WALL by it: half (cut)", 41, x -> x.wall(0, true), x -> x.bears(0));
        answers("17: a WALL by it: 60 at most", 60, x -> {
            alone(x, 0, 5, 6);
            x.wall(0, true);
        }, x -> x.bears(0));
        answers("17: a WALL beside it: and by 4 (cut)", 16, x -> x.wall(0, true), x -> x.bears(7));
        answers("17: a WALL beside it: 75 is held", 60, x -> {
            alone(x, 1, 8, 7);
            x.wall(1, true);
        }, x -> x.bears(0));
        answers("17: who is GONE bears nothing", 60, Edges::strongAlone, x -> x.bears(0));
        answers("17: who STANDS alone bears it", 20, Edges::strongAlone, x -> x.bears(4));
    }

    /** Peg 0 of two, by north, told so; the other one holds all. */
    private static void alone(TentPegs x, int kind, int depth, int ground) {
        strong(x, 2);
        x.peg(0, kind, depth, ground);
    }

    private static void least() {
        answers("17: LEAST of all alike: the first", 0, x -> x.bears(NONE));
        answers("17: LEAST by the last WAY", 7, x -> x.peg(7, 0, 1, 9), x -> x.bears(NONE));
        answers("17: LEAST of like ones the first", 2, x -> {
            x.peg(6, 0, 1, 9);
            x.peg(2, 0, 1, 9);
        }, x -> x.bears(NONE));
        answers("17: LEAST is by no WAY behind 7, that no WALL shelters", 1, WhatGoesEdgesTest::sheltered, x -> x.bears(NONE));
        answers("17: BEARS by the LEAST then", 11, WhatGoesEdgesTest::sheltered, x -> x.bears(1));
        answers("18: LEAST is by no WAY behind 7, that no WALL shelters", 17, WhatGoesEdgesTest::sheltered,
            x -> x.twofold(1, NONE));
        answers("17: LEAST is by no WAY ahead of 0, that no WALL shelters", 0, WhatGoesEdgesTest::shelteredLast,
            x -> x.bears(NONE));
        answers("18: LEAST is by no WAY ahead of 0, that no WALL shelters", 17, WhatGoesEdgesTest::shelteredLast,
            x -> x.twofold(1, NONE));
        answers("17: LEAST when all bear 60", 0, x -> strong(x, 8), x -> x.bears(NONE));
        answers("17: LEAST when none STANDS", 0, Edges::drawAll, x -> x.bears(NONE));
        asks("17: LEAST changes nothing", 3, Edges::muchTold, x -> x.bears(NONE));
    }

    /** The weak one is behind a wall: by 0 it bears 21 (31 when doubled), by 1 and 7 11 (17). */
    private static void sheltered(TentPegs x) {
        weakAndStrong(x);
        x.wall(0, true);
    }

    /** The weak one is the last, behind a wall: by 7 it bears 21 (31 when doubled), by 0 and 6 11 (17). */
    private static void shelteredLast(TentPegs x) {
        strong(x, 8);
        x.peg(7, 0, 2, 5);
        x.wall(7, true);
    }

    private static void twofold() {
        range("18: m", 1, 2, ASKED, (x, m) -> x.twofold(m, NONE));
        from("18: i", NONE, ASKED, Edges::muchTold, (x, i) -> x.twofold(1, i));
        asks("18: how much, nothing changes", 15, Edges::weakAndStrong, x -> x.twofold(1, NONE));
        asks("18: the i-th, nothing changes", 1, Edges::weakAndStrong, x -> x.twofold(2, 1));
        answers("18: the last of 1", 0, Edges::weakAndStrong, x -> x.twofold(1, 0));
        answers("18: -5: not so many as 2 of 1", SHORT, Edges::weakAndStrong, x -> x.twofold(1, 1));
        answers("18: -5: not so many as 3 of 2", SHORT, Edges::weakAndStrong, x -> x.twofold(2, 2));
        answers("18: -5: far from so many", SHORT, Edges::weakAndStrong, x -> x.twofold(2, HIGH));
        for (int n : new int[] {NONE, 0, 1, 2, HIGH}) {
            answers("18: NONE: not so many STAND, 1 of 2, i " + n, NONE, Edges::strongAlone, x -> x.twofold(2, n));
            answers("18: NONE: not so many STAND, none, i " + n, NONE, Edges::drawAll, x -> x.twofold(1, n));
        }
        bad("18: BAD is ahead of NONE, i", ASKED, Edges::drawAll, x -> x.twofold(1, -2));
        bad("18: BAD is ahead of NONE, m", ASKED, Edges::drawAll, x -> x.twofold(3, 0));
        answers("18: as many STAND as are asked for, 1", 1, Edges::strongAlone, x -> x.twofold(1, 0));
        answers("18: as many STAND as are asked for, 1: how much", 30, Edges::strongAlone, x -> x.twofold(1, NONE));
        answers("18: as many STAND as are asked for, 2", 1, Edges::weakAndStrong, x -> x.twofold(2, 1));
        answers("18: 60 at most", 60, x -> strong(x, 8), x -> x.twofold(2, NONE));
        answers("18: none is borne", 0, x -> x.peg(7, 0, 0, 0), x -> x.twofold(2, NONE));
    }

    private static void twofoldOfLikeOnes() {
        answers("18: of like ones the first", 0, x -> x.twofold(1, 0));
        answers("18: of like ones the first, of 2", 0, x -> x.twofold(2, 0));
        answers("18: of like ones the first, the second of 2", 1, x -> x.twofold(2, 1));
        answers("18: one that is GONE is none of them", 1, x -> x.stand(0, false), x -> x.twofold(1, 0));
        answers("18: one that is GONE is none of 2", 2, x -> x.stand(1, false), x -> x.twofold(2, 1));
        answers("18: the last one", 7, x -> x.peg(7, 0, 3, 3), x -> x.twofold(1, 0));
        answers("18: lesser PEG ahead, though the other is weaker", 5, x -> {
            x.peg(7, 0, 3, 3);
            x.peg(5, 0, 3, 4);
        }, x -> x.twofold(2, 0));
        answers("18: lesser PEG ahead, the greater one behind", 7, x -> {
            x.peg(7, 0, 3, 3);
            x.peg(5, 0, 3, 4);
        }, x -> x.twofold(2, 1));
        answers("18: in place of BURIED it HOLDS less", 6, x -> {
            x.tent(2);
            x.peg(0, 2, 2, 2);
            x.peg(1, 2, 2, 2);
        }, x -> x.twofold(1, NONE));
        answers("18: in place of ZIPPED it HOLDS less", 6, x -> {
            x.tent(2);
            x.peg(0, 5, 2, 2);
            x.peg(1, 5, 2, 2);
        }, x -> x.twofold(2, NONE));
        answers("18: one that is DOUBLED may be made so", 0, x -> {
            strong(x, 2);
            x.peg(0, 1, 5, 4);
        }, x -> x.twofold(1, 0));
    }

    private static void strokes() {
        range("19: WAY", 0, 7, ASKED, (x, way) -> x.strokes(way, 1, NONE));
        range("19: STRENGTH", 0, 60, ASKED, (x, s) -> x.strokes(0, s, NONE));
        range("19: PEG", NONE, 4, ASKED, (x, k) -> x.strokes(0, 1, k));
        range("19: PEG of 2", NONE, 1, ASKED, x -> x.tent(2), (x, k) -> x.strokes(0, 1, k));
        bad("19: BAD is ahead of NONE", ASKED, x -> x.tent(2), x -> x.strokes(0, 60, 2));
        asks("19: how many, nothing changes", 2, Edges::muchTold, x -> x.strokes(3, 21, NONE));
        asks("19: the DEPTH, nothing changes", 7, Edges::muchTold, x -> x.strokes(3, 21, 2));
    }

    private static void deeper(String sentence, int want, int strength, int peg) {
        answers("19: " + sentence, want, x -> x.tent(2), x -> x.strokes(0, strength, peg));
    }

    private static void strokesDeeper() {
        deeper("none needed", 0, 20, NONE);
        deeper("none needed, the DEPTH", 5, 20, 0);
        deeper("STRENGTH 0", 0, 0, NONE);
        deeper("one inch, more than needed", 1, 21, NONE);
        deeper("one inch, just enough", 1, 24, NONE);
        deeper("two inches", 2, 25, NONE);
        deeper("DEPTH 9", 4, 36, NONE);
        deeper("DEPTH 9 of the PEG", 9, 36, 0);
        deeper("DEPTH 9 of another one's", 5, 36, 1);
        deeper("DEPTH 9 at most", NONE, 37, NONE);
        deeper("DEPTH 9 at most, of the PEG", NONE, 37, 0);
        deeper("DEPTH 9 at most, of another PEG", NONE, 37, 1);
        answers("19: none is driven less deep", 9, x -> x.peg(0, 0, 9, 4), x -> x.strokes(0, 0, 0));
        answers("19: DEPTH 9 already, held", 0, x -> alone(x, 0, 9, 4), x -> x.strokes(0, 36, NONE));
        answers("19: DEPTH 9 already, not held", NONE, x -> alone(x, 0, 9, 4), x -> x.strokes(0, 37, NONE));
        answers("19: from DEPTH 0", 9, x -> alone(x, 0, 0, 4), x -> x.strokes(0, 36, NONE));
        answers("19: GROUND of nothing", NONE, x -> alone(x, 0, 5, 0), x -> x.strokes(0, 1, NONE));
        answers("19: GROUND of nothing, no PULL", 0, x -> alone(x, 0, 5, 0), x -> x.strokes(4, 60, NONE));
        answers("19: who is GONE is not driven", 0, Edges::strongAlone, x -> x.strokes(0, 60, NONE));
        answers("19: who is GONE has the DEPTH that it has", 2, Edges::strongAlone, x -> x.strokes(0, 60, 0));
        answers("19: none STANDS", 0, Edges::drawAll, x -> x.strokes(0, 60, NONE));
    }

    private static void chance() {
        range("20: STRENGTH", 0, 60, BAD, (x, s) -> x.chance(s));
        no("20: all ODDS are 0", Edges::noOdds, x -> x.chance(0));
        bad("20: BAD is ahead of NO", BAD, Edges::noOdds, x -> x.chance(61));
        answers("20: one of the ODDS is not 0", 1, x -> {
            noOdds(x);
            x.odds(7, 1);
        }, x -> x.chance(60));
        answers("20: 1 by 1", 1001, Edges::weakAndStrong, x -> then(x.chance(10), fraction(x)));
        answers("20: 7 by 8", 7008, Edges::weakAndStrong, x -> then(x.chance(11), fraction(x)));
        answers("20: lowest terms, 4 by 8", 1002, Edges::weakAndStrong, x -> then(x.chance(21), fraction(x)));
        answers("20: lowest terms, 140 by 160", 7008, x -> {
            weakAndStrong(x);
            for (int way = 0; way < 8; way++) {
                x.odds(way, 20);
            }
        }, x -> then(x.chance(11), fraction(x)));
        answers("20: 0 by 1", 1, Edges::weakAndStrong, x -> then(x.chance(60), fraction(x)));
        answers("20: 0 by 1 behind another one", 1, x -> {
            weakAndStrong(x);
            x.chance(11);
        }, x -> then(x.chance(60), fraction(x)));
        answers("20: ODDS of 0 are none", 1001, x -> {
            weakAndStrong(x);
            x.odds(0, 0);
        }, x -> then(x.chance(11), fraction(x)));
        answers("20: none STANDS", 1001, Edges::drawAll, x -> then(x.chance(60), fraction(x)));
        comesBack("20, 22: nothing but THE FRACTION", Edges::allTold, x -> then(x.chance(20), x.worth(4, 30)));
        comesBack("21, 22: nothing but THE FRACTION", Edges::allTold, x -> then(x.turn(20), x.worth(4, 30)));
        answers("20: STRENGTH 0", 1001, x -> x.peg(0, 0, 0, 0), x -> then(x.chance(0), fraction(x)));
    }

    private static void oddsBy(TentPegs x, int way) {
        noOdds(x);
        x.odds(way, 3);
    }

    private static void turn() {
        range("21: STRENGTH", 0, 60, BAD, (x, s) -> x.turn(s));
        no("21: all ODDS are 0", Edges::noOdds, x -> x.turn(0));
        bad("21: BAD is ahead of NO", BAD, Edges::noOdds, x -> x.turn(-1));
        answers("21: of like ones the least", 0, x -> x.turn(20));
        answers("21: of like ones the least, when all take some", 0, x -> x.turn(60));
        answers("21: when all take some, THE FRACTION", 1, x -> x.chance(0), x -> then(x.turn(60), fraction(x)));
        answers("21: further on by 1", 1, x -> {
            weakAndStrong(x);
            oddsBy(x, 0);
        }, x -> x.turn(11));
        answers("21: further on by 1, THE FRACTION", 1001, x -> {
            weakAndStrong(x);
            oddsBy(x, 0);
        }, x -> then(x.turn(11), fraction(x)));
        answers("21: THE FRACTION is of the best one, not of the last", 1001, x -> {
            weakAndStrong(x);
            oddsBy(x, 7);
        }, x -> then(x.turn(11), fraction(x)));
        answers("21: further on, not back", 0, x -> {
            weakAndStrong(x);
            oddsBy(x, 1);
        }, x -> x.turn(11));
        answers("21: further on by 7, round", 7, x -> {
            // Of seven none stands by 7, which comes to 6.
            x.tent(7);
            oddsBy(x, 6);
        }, x -> x.turn(21));
        answers("21: further on by 7, THE FRACTION", 1001, x -> {
            x.tent(7);
            oddsBy(x, 6);
        }, x -> then(x.turn(21), fraction(x)));
        answers("21: none STANDS", 0, Edges::drawAll, x -> x.turn(60));
        answers("21: none STANDS, THE FRACTION", 1001, Edges::drawAll, x -> then(x.turn(60), fraction(x)));
        answers("21: ODDS of one WAY alone", 0, x -> oddsBy(x, 7), x -> x.turn(0));
        answers("21: PEGS are not turned by it", 0, x -> {
            x.tent(7);
            oddsBy(x, 6);
        }, x -> then(x.turn(21), x.of(0, 5)));
        answers("21: WALLS are not turned", 0, x -> {
            weakAndStrong(x);
            oddsBy(x, 0);
            x.wall(0, true);
        }, x -> x.turn(21));
    }

    private static void worth() {
        range("22: WAY", 0, 7, BAD, (x, way) -> x.worth(way, 1));
        range("22: STRENGTH", 0, 60, BAD, (x, s) -> x.worth(0, s));
        no("22: all ODDS are 0", Edges::noOdds, x -> x.worth(0, 0));
        bad("22: BAD is ahead of NO, WAY", BAD, Edges::noOdds, x -> x.worth(8, 0));
        bad("22: BAD is ahead of NO, STRENGTH", BAD, Edges::noOdds, x -> x.worth(0, 61));
        answers("22: 1, whatever it is worth", 1, x -> x.worth(7, 18));
        answers("22: above 0", 1008, x -> then(x.worth(7, 30), fraction(x)));
        answers("22: below 0, lowest terms, below above 0", -996, x -> then(x.worth(7, 18), fraction(x)));
        answers("22: as much as without", 1, x -> x.chance(0), x -> then(x.worth(7, 16), fraction(x)));
        answers("22: it is there already", 1, x -> {
            x.wall(7, true);
            x.chance(0);
        }, x -> then(x.worth(7, 30), fraction(x)));
        answers("22: all of it", 1001, x -> oddsBy(x, 7), x -> then(x.worth(7, 30), fraction(x)));
        answers("22: all of it below 0", -999, x -> oddsBy(x, 0), x -> then(x.worth(7, 18), fraction(x)));
        answers("22: none STANDS", 1, x -> {
            drawAll(x);
            x.chance(0);
        }, x -> then(x.worth(7, 60), fraction(x)));
        answers("22: no WALL is put by it", 0, x -> then(x.worth(7, 30), x.count(3)));
    }

    private static void setUp() {
        range("23: c", 1, 4, ASKED, (x, c) -> x.setUp(c, 0, 1, NONE));
        range("23: WAY", 0, 7, ASKED, (x, way) -> x.setUp(2, way, 1, NONE));
        range("23: STRENGTH", 0, 60, ASKED, (x, s) -> x.setUp(2, 0, s, NONE));
        from("23: i", NONE, ASKED, Edges::muchTold, (x, i) -> x.setUp(2, 0, 1, i));
        asks("23: how many, nothing changes", 120, Edges::muchTold, x -> x.setUp(2, 0, 1, NONE));
        asks("23: the i-th, nothing changes", 4, Edges::muchTold, x -> x.setUp(2, 0, 1, 4));
        answers("23: -5: not so many PEGS", SHORT, Edges::muchTold, x -> x.setUp(2, 0, 1, 5));
        answers("23: -5: far from so many PEGS", SHORT, x -> x.setUp(2, 0, 1, HIGH));
        for (int n : new int[] {0, 7, 8, HIGH}) {
            answers("23: NONE: there is no order, i " + n, NONE, x -> x.setUp(2, 0, 21, n));
        }
        answers("23: there is no order: how many", 0, x -> x.setUp(2, 0, 21, NONE));
        bad("23: BAD is ahead of NONE", ASKED, x -> { }, x -> x.setUp(2, 0, 21, -2));
    }

    private static void setUpOrders() {
        answers("23: a single one goes in any case", 0, x -> strong(x, 8), x -> x.setUp(1, 0, 0, NONE));
        answers("23: a single one of 2 goes in any case", 0, x -> strong(x, 2), x -> x.setUp(1, 0, 0, NONE));
        answers("23: all orders of 8", 40320, x -> x.setUp(2, 0, 20, NONE));
        answers("23: all orders of 8, the last PEG", 7, x -> x.setUp(2, 0, 20, 7));
        for (int k = 2; k <= 4; k++) {
            int c = k;
            answers("23: all orders of 2, c " + c, 2, x -> strong(x, 2), x -> x.setUp(c, 0, 60, NONE));
            answers("23: all orders of 3, c " + c, 6, x -> strong(x, 3), x -> x.setUp(c, 0, 60, NONE));
            answers("23: behind the last one, of 3, c " + c, 0, x -> {
                strong(x, 3);
                x.peg(0, 0, 0, 0);
            }, x -> x.setUp(c, 0, 1, NONE));
            answers("23: behind the last one, of 5, c " + c, 0, x -> {
                strong(x, 5);
                x.peg(0, 0, 0, 0);
            }, x -> x.setUp(c, 0, 1, NONE));
        }
        answers("23: behind the 2nd just those STAND", 12, Edges::zippedByEast, x -> x.setUp(2, 2, 36, NONE));
        answers("23: behind the 3rd just those STAND", 12, Edges::zippedByEast, x -> x.setUp(3, 2, 36, NONE));
        answers("23: behind the 4th, the last one, alone", 24, Edges::zippedByEast, x -> x.setUp(4, 2, 36, NONE));
        answers("23: of as many as HOLD, no more", 0, Edges::zippedByEast, x -> x.setUp(4, 2, 37, NONE));
        answers("23: the first one has the least PEG ahead", 0, Edges::zippedByEast, x -> x.setUp(2, 2, 36, 0));
        answers("23: the first one, its 1st", 2, Edges::zippedByEast, x -> x.setUp(2, 2, 36, 1));
        answers("23: the first one, its last", 3, Edges::zippedByEast, x -> x.setUp(2, 2, 36, 3));
        answers("23: all n are driven, when none STANDS", 24, x -> {
            zippedByEast(x);
            drawAll(x);
        }, x -> x.setUp(4, 2, 36, NONE));
        answers("23: all n are driven, those GONE too", 24, x -> {
            zippedByEast(x);
            x.stand(0, false);
            x.stand(1, false);
        }, x -> x.setUp(4, 2, 36, NONE));
    }

    private static void morning() {
        range("24: found", 0, 15, ASKED, (x, found) -> x.morning(found, 0));
        range("24: found of 2", 0, 3, ASKED, x -> x.tent(2), (x, found) -> x.morning(found, 0));
        range("24: found of 8", 0, 255, ASKED, x -> x.tent(8), (x, found) -> x.morning(found, 0));
        range("24: found when none STANDS", 0, 0, ASKED, Edges::drawAll, (x, found) -> x.morning(found, 0));
        range("24: what", 0, 1, ASKED, (x, what) -> x.morning(0, what));
        bad("24: one that is GONE now", ASKED, x -> x.stand(3, false), x -> x.morning(8, 0));
        bad("24: one that is GONE now, and others", ASKED, x -> x.stand(3, false), x -> x.morning(255, 0));
        bad("24: the first is GONE now", ASKED, x -> x.stand(0, false), x -> x.morning(1, 1));
        asks("24: how many, nothing changes", 24, Edges::weakAndStrong, x -> x.morning(1, 0));
        asks("24: the first, nothing changes", 11, Edges::weakAndStrong, x -> x.morning(1, 1));
    }

    private static void morningFirst() {
        answers("24: none found: GUSTS that take none", 168, x -> x.morning(0, 0));
        answers("24: none found: the first", 0, x -> x.morning(0, 1));
        answers("24: all found", 320, x -> x.morning(255, 0));
        answers("24: all found: the first", 21, x -> x.morning(255, 1));
        answers("24: there is none", 0, x -> x.morning(1, 0));
        answers("24: there is none: NONE", NONE, x -> x.morning(1, 1));
        answers("24: all take none", 488, x -> strong(x, 8), x -> x.morning(0, 0));
        answers("24: just the last GUST", 1, x -> lastGust(x), x -> x.morning(128, 0));
        answers("24: just the last GUST: the first", 760, x -> lastGust(x), x -> x.morning(128, 1));
        answers("24: by v, then s", 258, x -> {
            // 3 holds 42: by 3 above it, by 2 and 4 above 57.
            strong(x, 8);
            x.peg(3, 0, 6, 7);
        }, x -> x.morning(8, 1));
        answers("24: none STANDS: all take none", 488, Edges::drawAll, x -> x.morning(0, 0));
    }

    /** Peg 7 holds 59, all others all. */
    private static void lastGust(TentPegs x) {
        strong(x, 8);
        x.peg(7, 2, 7, 7);
    }

    private static void lent() {
        range("25: WAY", 0, 7, ASKED, (x, way) -> x.lent(way, 1, 0));
        range("25: STRENGTH", 0, 60, ASKED, (x, s) -> x.lent(0, s, 0));
        range("25: what", 0, 2, ASKED, (x, what) -> x.lent(0, 1, what));
        asks("25: too many, nothing changes", 13, Edges::muchTold, x -> x.lent(3, 21, 0));
        asks("25: too few, nothing changes", 2, Edges::muchTold, x -> x.lent(3, 21, 1));
        asks("25: BALANCE, nothing changes", 4, Edges::muchTold, x -> x.lent(3, 21, 2));
    }

    private static void needs(String sentence, int many, int few, int balance, Told told, int strength) {
        answers("25: " + sentence + ": too many", many, told, x -> x.lent(0, strength, 0));
        answers("25: " + sentence + ": too few", few, told, x -> x.lent(0, strength, 1));
        answers("25: " + sentence + ": BALANCE", balance, told, x -> x.lent(0, strength, 2));
    }

    private static void lentNeeds() {
        needs("no PULL needs DEPTH 0", 10, 0, 2, x -> x.tent(2), 0);
        needs("just what it has", 5, 0, 2, x -> x.tent(2), 20);
        needs("one more than it has", 5, 1, 2, x -> x.tent(2), 21);
        needs("DEPTH 9", 5, 4, 2, x -> x.tent(2), 36);
        needs("10, if none does", 5, 5, 1, x -> x.tent(2), 37);
        needs("10, if none does, of DEPTH 0", 5, 10, 1, x -> {
            x.tent(2);
            x.peg(0, 0, 0, 0);
        }, 1);
        needs("10, if none does, of DEPTH 9; 9 at most", 9, 1, 1, x -> {
            strong(x, 2);
            x.peg(0, 0, 9, 0);
        }, 1);
        needs("DEPTH 0 with GROUND of nothing and no PULL", 18, 0, 2, x -> {
            strong(x, 2);
            x.peg(0, 0, 9, 0);
        }, 0);
        needs("all inches are dealt", 4, 4, 2, Edges::weakAndStrong, 30);
        needs("an inch is missing", 4, 5, 1, Edges::weakAndStrong, 31);
        needs("no inches, no needs", 0, 0, 2, x -> {
            x.tent(2);
            x.peg(0, 0, 0, 4);
            x.peg(1, 0, 0, 4);
        }, 0);
        needs("no inches", 0, 1, 1, x -> {
            x.tent(2);
            x.peg(0, 0, 0, 4);
            x.peg(1, 0, 0, 4);
        }, 1);
        needs("what one has no other one gets", 0, 1, 3, x -> four(x, 6, 3, 0, 2), 24);
        needs("what each one needs is there", 0, 0, 4, x -> four(x, 6, 3, 0, 3), 24);
        answers("25: who is GONE lends none", 0, Edges::strongAlone, x -> x.lent(4, 25, 2));
        answers("25: who STANDS alone has what it needs", 1, Edges::strongAlone, x -> x.lent(4, 20, 2));
        needs("who is GONE has none and needs none", 4, 0, 1, Edges::strongAlone, 60);
        needs("none STANDS", 0, 0, 0, Edges::drawAll, 60);
        needs("all of 8", 5, 5, 8, Edges::eight, 30);
    }

    /** In 4, by 0 of 24 they need 6, 3, 0 and 3 inches. */
    private static void four(TentPegs x, int... depths) {
        x.tent(4);
        for (int k = 0; k < 4; k++) {
            x.peg(k, 0, depths[k], 4);
        }
    }

    private static void pence() {
        range("26: WAY", 0, 7, BAD, (x, way) -> x.pence(way, 1, 1));
        range("26: STRENGTH", 0, 60, BAD, (x, s) -> x.pence(0, s, 1));
        range("26: pence", 1, 20, BAD, (x, p) -> x.pence(0, 1, p));
        asks("26: nothing changes", 26 * 4 * 3, Edges::muchTold, x -> x.pence(3, 21, 3));
    }

    private static void pounds() {
        answers("26: 1 at least", 8, x -> x.pence(0, 0, 1));
        answers("26: 1 at least, of 1", 8, x -> x.pence(0, 1, 1));
        answers("26: no less than any PULL, 2", 16, x -> x.pence(0, 2, 1));
        answers("26: the most", 12000, x -> x.wall(1, true), x -> x.pence(0, 60, 20));
        answers("26: for all PEGS that STAND", 140, x -> x.stand(7, false), x -> x.pence(0, 20, 1));
        answers("26: who is GONE pulls at none", 7 * 22, x -> x.stand(0, false), x -> x.pence(0, 30, 1));
        answers("26: PULL ahead of any that goes", 480, x -> x.pence(0, 60, 1));
        answers("26: one STANDS, 1 at least", 1, Edges::strongAlone, x -> x.pence(0, 60, 1));
        answers("26: none STANDS", 0, Edges::drawAll, x -> x.pence(0, 60, 20));
    }

    private static final String[] ASKED_NAMES = {"first", "lost", "bears", "bears, LEAST", "twofold", "strokes", "chance",
        "turn", "worth", "setUp", "setUp, the i-th", "morning", "morning, the first", "lent", "pence", "night", "wake",
        "of, HOLDS", "of, WAY", "pull", "gust"};

    private static final Call[] ASKED_CALLS = {
        x -> x.first(3, 40, NONE), x -> x.lost(2, 3, 30), x -> x.bears(3), x -> x.bears(NONE), x -> x.twofold(2, 0),
        x -> x.strokes(3, 21, NONE), x -> x.chance(20) + fraction(x), x -> x.turn(20) + fraction(x),
        x -> x.worth(4, 20) + fraction(x), x -> x.setUp(2, 3, 21, NONE), x -> x.setUp(2, 3, 14, 4),
        x -> x.morning(4, 0), x -> x.morning(8, 1), x -> x.lent(3, 21, 2), x -> x.pence(3, 21, 3),
        x -> x.night(60, 60, 3, 1), x -> x.wake(60, 60, 3), x -> x.of(0, 3), x -> x.of(2, 5), x -> x.pull(2, 3, 40),
        x -> x.gust(3, 40)};

    /** What is asked answers the same whatever was asked ahead of it; a gust comes last alone. */
    private static void oneBehindAnother() {
        for (int a = 0; a < ASKED_CALLS.length; a++) {
            for (int b = 0; b < ASKED_CALLS.length - 1; b++) {
                Call last = ASKED_CALLS[a];
                Call ahead = ASKED_CALLS[b];
                TentPegs fresh = new TentPegs();
                muchTold(fresh);
                answers("changes nothing: " + ASKED_NAMES[b] + " ahead of: " + ASKED_NAMES[a], last.on(fresh),
                    Edges::muchTold, x -> then(ahead.on(x), last.on(x)));
            }
        }
    }
}
