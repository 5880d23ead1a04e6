/** Promises 10 to 14, and what section 1 says of pulls, of kinds and of who goes: a test for each sentence with a bound. */
public final class GustEdgesTest extends Edges {
    public static void main(String[] args) {
        gust();
        gustRefused();
        whoGoes();
        whatComesToOthers();
        stand();
        undo();
        undoTen();
        undoLeaves();
        nothingElse();
        of();
        kinds();
        zipped();
        pull();
        pullAround();
        walls();
        Due.end("GustEdgesTest");
    }

    private static void gust() {
        answers("10: none goes", 0, x -> x.gust(0, 20));
        answers("10: all go", 8, x -> x.gust(0, 21));
        answers("10: STRENGTH 0 takes none, though a PEG HOLDS nothing", 0, x -> x.peg(0, 0, 0, 0), x -> x.gust(0, 0));
        answers("10: STRENGTH 1 takes one that HOLDS nothing", 1, x -> x.peg(0, 0, 0, 0), x -> x.gust(0, 1));
        answers("10: STRENGTH 60 is held by as much", 0, x -> {
            strong(x, 8);
            x.peg(0, 1, 5, 8);
        }, x -> x.gust(0, 60));
        answers("10: STRENGTH 60 takes one that HOLDS 59", 1, x -> {
            strong(x, 8);
            x.peg(0, 2, 7, 7);
        }, x -> x.gust(0, 60));
        answers("10: who goes is GONE", 0, x -> x.gust(0, 21), x -> x.count(1));
        answers("10: one that takes none may be undone", 1, x -> x.gust(0, 0), x -> x.count(4));
    }

    private static void gustRefused() {
        range("10: WAY", 0, 7, BAD, (x, way) -> x.gust(way, 1));
        range("10: STRENGTH", 0, 60, BAD, (x, s) -> x.gust(0, s));
        no("10: THE TENT is LOST, none STAND", Edges::drawAll, x -> x.gust(0, 0));
        no("10: THE TENT is LOST, 1 STANDS", x -> {
            drawAll(x);
            x.stand(7, true);
        }, x -> x.gust(0, 60));
        no("10: THE TENT is LOST, by a GUST", x -> x.gust(0, 60), x -> x.gust(0, 60));
        answers("10: 2 STAND: it is not LOST", 0, x -> {
            drawAll(x);
            x.stand(0, true);
            x.stand(7, true);
        }, x -> x.gust(0, 0));
        bad("10: BAD is ahead of NO, WAY", BAD, Edges::drawAll, x -> x.gust(8, 0));
        bad("10: BAD is ahead of NO, STRENGTH", BAD, Edges::drawAll, x -> x.gust(0, 61));
    }

    private static void whoGoes() {
        answers("10: as much as it HOLDS: none goes", 0, x -> x.tent(4), x -> x.gust(0, 20));
        answers("10: more than it HOLDS: it goes", 4, x -> x.tent(4), x -> x.gust(0, 21));
        answers("10: most too much, not most PULL", 1, x -> {
            // 0 has 24 and holds 18, 1 has 12 and holds 1.
            x.tent(4);
            x.peg(0, 0, 2, 9);
            x.peg(1, 0, 1, 1);
        }, x -> x.first(0, 24, 0));
        answers("10: of like ones the least", 1, x -> {
            // 1 and 3 have 12 each and hold 10.
            strong(x, 4);
            x.peg(1, 0, 2, 5);
            x.peg(3, 0, 2, 5);
        }, x -> x.first(0, 24, 0));
        answers("10: of like ones the least, then the other", 3, x -> {
            strong(x, 4);
            x.peg(1, 0, 2, 5);
            x.peg(3, 0, 2, 5);
        }, x -> x.first(0, 24, 1));
        answers("10: one that is GONE does not go", 0, x -> {
            strong(x, 4);
            x.peg(0, 0, 0, 0);
            x.stand(0, false);
        }, x -> x.gust(0, 60));
        answers("10: of two the last goes too", 2, x -> x.tent(2), x -> x.gust(0, 60));
        answers("10: zipped ones HOLD by who STANDS then", 2, x -> {
            // By 2: 1 has 36 and holds 36, until 0 goes with 18, of which 9 come to it.
            strong(x, 4);
            x.peg(1, 5, 5, 4);
            x.peg(0, 0, 1, 1);
        }, x -> x.gust(2, 36));
        answers("10: zipped ones HOLD no less by who was GONE already", 0, x -> {
            strong(x, 4);
            x.peg(1, 5, 5, 4);
            x.stand(0, false);
        }, x -> x.gust(2, 33));
    }

    /** Three by 0, 2 and 5: of 21 by 5 the last has 21, the others 5 each; of 21 by 0 they have 21, 10 and 5. */
    private static void three(TentPegs x, int held0, int held1, int held2) {
        strong(x, 3);
        hold(x, 0, held0);
        hold(x, 1, held1);
        hold(x, 2, held2);
    }

    /** Plain, or buried in ground of 1. */
    private static void hold(TentPegs x, int peg, int held) {
        for (int depth = 1; depth <= 9; depth++) {
            if (held % depth == 0 && held / depth <= 9) {
                x.peg(peg, 0, depth, held / depth);
                return;
            }
        }
        x.peg(peg, 2, held - 10, 1);
    }

    private static void whatComesToOthers() {
        answers("10: half, cut up, to the next behind, round: held", 1, x -> three(x, 16, 42, 20), x -> x.gust(5, 21));
        answers("10: half, cut up, to the next behind, round: not held", 2, x -> three(x, 15, 42, 20), x -> x.gust(5, 21));
        answers("10: the rest to the next ahead: held", 1, x -> three(x, 42, 15, 20), x -> x.gust(5, 21));
        answers("10: the rest to the next ahead: not held", 2, x -> three(x, 42, 14, 20), x -> x.gust(5, 21));
        answers("10: half, cut up, to the next behind: held", 1, x -> three(x, 20, 21, 42), x -> x.gust(0, 21));
        answers("10: half, cut up, to the next behind: not held", 2, x -> three(x, 20, 20, 42), x -> x.gust(0, 21));
        answers("10: the rest to the next ahead, round: held", 1, x -> three(x, 20, 42, 15), x -> x.gust(0, 21));
        answers("10: the rest to the next ahead, round: not held", 2, x -> three(x, 20, 42, 14), x -> x.gust(0, 21));
        answers("10: to the next behind that STANDS: held", 1, x -> beside(x, 1, 2, 11), x -> x.gust(0, 21));
        answers("10: to the next behind that STANDS: not held", 2, x -> beside(x, 1, 2, 10), x -> x.gust(0, 21));
        answers("10: to the next ahead that STANDS: held", 1, x -> beside(x, 3, 2, 10), x -> x.gust(0, 21));
        answers("10: to the next ahead that STANDS: not held", 2, x -> beside(x, 3, 2, 9), x -> x.gust(0, 21));
        answers("10: both may be one: held", 1, x -> two(x, 21), x -> x.gust(0, 21));
        answers("10: both may be one: not held", 2, x -> two(x, 20), x -> x.gust(0, 21));
        answers("10: both may be one, the first PEG: held", 1, x -> {
            x.tent(2);
            hold(x, 0, 21);
        }, x -> x.gust(4, 21));
        answers("10: both may be one, the first PEG: not held", 2, x -> x.tent(2), x -> x.gust(4, 21));
        answers("10: both may be one, of more that are GONE: held", 1, x -> oneOver(x, 21), x -> x.gust(0, 21));
        answers("10: both may be one, of more that are GONE: not held", 2, x -> oneOver(x, 20), x -> x.gust(0, 21));
        answers("10: the others keep what they have: held", 1, x -> {
            // 1 has 15 of its own, and 10 that come of 20.
            strong(x, 8);
            x.peg(0, 0, 0, 0);
            x.peg(1, 0, 5, 5);
        }, x -> x.gust(0, 20));
        answers("10: the others keep what they have: not held", 2, x -> {
            strong(x, 8);
            x.peg(0, 0, 0, 0);
            x.peg(1, 0, 3, 8);
        }, x -> x.gust(0, 20));
    }

    /** Four by 0, 2, 4 and 6, one of them GONE: 0 holds 20, one that has nothing by 0 holds so much. */
    private static void beside(TentPegs x, int gone, int peg, int held) {
        strong(x, 4);
        hold(x, 0, 20);
        hold(x, peg, held);
        x.stand(gone, false);
    }

    private static void two(TentPegs x, int held) {
        x.tent(2);
        hold(x, 0, 20);
        hold(x, 1, held);
    }

    private static void oneOver(TentPegs x, int held) {
        beside(x, 1, 2, held);
        x.stand(3, false);
    }

    private static void stand() {
        range("11: PEG", 0, 4, BAD, (x, k) -> x.stand(k, true));
        range("11: PEG to be drawn", 0, 4, BAD, (x, k) -> x.stand(k, false));
        range("11: PEG of 2", 0, 1, BAD, x -> x.tent(2), (x, k) -> x.stand(k, false));
        range("11: PEG of 8", 0, 7, BAD, x -> x.tent(8), (x, k) -> x.stand(k, false));
        no("11: it is so, it STANDS", x -> { }, x -> x.stand(7, true));
        no("11: it is so, it is GONE", x -> x.stand(7, false), x -> x.stand(7, false));
        no("11: it is so, it was put back", x -> {
            x.stand(7, false);
            x.stand(7, true);
        }, x -> x.stand(7, true));
        no("11: it is so, it went by a GUST", x -> x.gust(0, 60), x -> x.stand(7, false));
        answers("11: the last one is drawn", 1, x -> x.tent(2), x -> then(x.stand(0, false), x.stand(1, false)));
        answers("11: the last one is drawn: none STAND", 0, Edges::drawAll, x -> x.count(1));
        answers("11: one is put back when none STAND", 1, Edges::drawAll, x -> x.stand(7, true));
        answers("11: no other one", 7, x -> x.stand(7, false), x -> 10 * x.of(7, 4) + x.count(1));
    }

    private static void undo() {
        no("12: none may be", x -> { }, x -> x.undo());
        no("12: none may be any more", x -> {
            x.stand(0, false);
            x.undo();
        }, x -> x.undo());
        answers("12: a GUST", 8, x -> x.gust(0, 60), x -> then(x.undo(), x.count(1)));
        answers("12: a PEG put back", 0, x -> {
            x.stand(7, false);
            x.stand(7, true);
        }, x -> then(x.undo(), x.of(7, 4)));
        answers("12: a PEG drawn", 1, x -> x.stand(7, false), x -> then(x.undo(), x.of(7, 4)));
        answers("12: the last one alone", 7, x -> {
            x.stand(7, false);
            x.gust(0, 60);
        }, x -> then(x.undo(), x.count(1)));
        answers("12: one that took none", 7, x -> {
            x.stand(7, false);
            x.gust(0, 0);
        }, x -> then(x.undo(), x.count(1)));
        answers("12: one less may be undone", 1, x -> changes(x, 2), x -> then(x.undo(), x.count(4)));
        no("12: a GUST refused as BAD is none", x -> x.gust(8, 0), x -> x.undo());
        answers("12: a GUST refused as NO is none", 8, x -> x.gust(0, 60),
            x -> then(x.gust(0, 60), then(x.undo(), x.count(1))));
        no("12: a PEG refused as NO is none", x -> x.stand(0, true), x -> x.undo());
    }

    private static void nothingElse() {
        comesBack("10, 12: nothing else", Edges::allTold, x -> then(x.gust(0, 60), x.undo()));
        comesBack("10, 12: nothing else, by one that takes none", Edges::allTold, x -> then(x.gust(7, 0), x.undo()));
        comesBack("11, 12: nothing else, drawn", Edges::allTold, x -> then(x.stand(0, false), x.undo()));
        comesBack("11, 12: nothing else, put back", Edges::allTold, x -> then(x.stand(4, true), x.undo()));
        no("12: none may be, much told", x -> {
            allTold(x);
            undoAll(x);
        }, x -> x.undo());
    }

    private static void undoAll(TentPegs x) {
        for (int left = x.count(4); left > 0; left--) {
            x.undo();
        }
    }

    private static void undoTen() {
        answers("12: 9 may be", 9, x -> changes(x, 9), x -> x.count(4));
        answers("12: 10 at most: 10", 10, x -> changes(x, 10), x -> x.count(4));
        answers("12: 10 at most: 11", 10, x -> changes(x, 11), x -> x.count(4));
        answers("12: 10 at most: far more", 10, x -> changes(x, 100), x -> x.count(4));
        answers("12: 10 at most, by GUSTS", 10, x -> {
            for (int i = 0; i < 11; i++) {
                x.gust(0, 0);
            }
        }, x -> x.count(4));
        answers("12: of 10 all come back", 8, x -> changes(x, 10), x -> {
            undoAll(x);
            return x.count(1);
        });
        answers("12: of 11 the first one does not", 7, x -> changes(x, 11), x -> {
            undoAll(x);
            return x.count(1) + 10 * x.of(0, 4);
        });
        answers("12: of 13 the first three do not", 5, x -> changes(x, 13), x -> {
            undoAll(x);
            return x.count(1) + 10 * x.of(0, 4) + 10 * x.of(2, 4);
        });
        no("12: of 11 none may be behind 10", x -> {
            changes(x, 11);
            undoAll(x);
        }, x -> x.undo());
        answers("12: of 11 the last one first", 1, x -> {
            for (int i = 0; i < 10; i++) {
                x.gust(0, 0);
            }
            x.stand(7, false);
        }, x -> then(x.undo(), x.of(7, 4)));
        answers("12: of 13 the last 10 come back, one by one", 10, x -> changes(x, 13), x -> {
            int right = 0;
            for (int i = 12; i >= 3; i--) {
                boolean was = x.of(i % 8, 4) == (i < 8 ? 0 : 1);
                x.undo();
                right += was && x.of(i % 8, 4) == (i < 8 ? 1 : 0) ? 1 : 0;
            }
            return right;
        });
        answers("12: more may be behind an undo of 11", 10, x -> {
            changes(x, 11);
            x.undo();
            x.gust(0, 0);
        }, x -> x.count(4));
    }

    private static void undoLeaves() {
        answers("12: what is told leaves it, a PEG", 1, x -> changes(x, 1), x -> then(x.peg(0, 1, 1, 1), x.count(4)));
        answers("12: what is told leaves it, WET", 1, x -> changes(x, 1), x -> then(x.wet(1), x.count(4)));
        answers("12: what is told leaves it, a WALL", 1, x -> changes(x, 1), x -> then(x.wall(0, true), x.count(4)));
        answers("12: what is told leaves it, ODDS", 1, x -> changes(x, 1), x -> then(x.odds(0, 0), x.count(4)));
        answers("12: it leaves what is told, a PEG", 5, x -> changes(x, 1),
            x -> then(x.peg(0, 5, 1, 1), then(x.undo(), x.of(0, 0))));
        answers("12: it leaves what is told, WET", 9, x -> changes(x, 1), x -> then(x.wet(9), then(x.undo(), x.count(2))));
        answers("12: it leaves what is told, a WALL", 128, x -> changes(x, 1),
            x -> then(x.wall(7, true), then(x.undo(), x.count(3))));
        answers("12: it leaves what is told, ODDS", 20, x -> changes(x, 1),
            x -> then(x.odds(7, 20), then(x.undo(), x.odds(7, 1))));
        answers("12: it leaves THE TEXT", 1, x -> changes(x, 1), x -> then(x.type('a'), then(x.undo(), x.count(5))));
    }

    private static void of() {
        range("13: PEG", 0, 4, BAD, (x, k) -> x.of(k, 0));
        range("13: PEG of 2", 0, 1, BAD, x -> x.tent(2), (x, k) -> x.of(k, 5));
        range("13: PEG of 8", 0, 7, BAD, x -> x.tent(8), (x, k) -> x.of(k, 5));
        range("13: what", 0, 5, BAD, (x, what) -> x.of(0, what));
        range("13: what of one GONE", 0, 5, BAD, (x, what) -> x.of(4, what));
        answers("13: whether it STANDS, 1", 1, x -> x.of(7, 4));
        answers("13: whether it STANDS, 0", 0, x -> x.stand(7, false), x -> x.of(7, 4));
        answers("13: its WAY, the first", 0, x -> x.of(0, 5));
        answers("13: its WAY, the last", 7, x -> x.of(7, 5));
        answers("13: its WAY when GONE", 7, x -> x.stand(7, false), x -> x.of(7, 5));
        asks("13: nothing changes", 66, Edges::muchTold, x -> x.of(0, 3));
    }

    private static void holds(String sentence, int want, int kind, int depth, int ground, int wet) {
        answers("13: " + sentence, want, x -> {
            x.peg(2, kind, depth, ground);
            x.wet(wet);
        }, x -> x.of(2, 3));
    }

    private static void kinds() {
        holds("PLAIN of no DEPTH", 0, 0, 0, 9, 0);
        holds("PLAIN in no GROUND", 0, 0, 9, 0, 0);
        holds("PLAIN, the most", 81, 0, 9, 9, 9);
        holds("DOUBLED, nothing", 0, 1, 0, 9, 0);
        holds("DOUBLED, half of 1 cut", 1, 1, 1, 1, 0);
        holds("DOUBLED, half of 9 cut", 13, 1, 3, 3, 9);
        holds("DOUBLED, half of 20", 30, 1, 5, 4, 0);
        holds("DOUBLED, the most", 121, 1, 9, 9, 0);
        holds("BURIED in nothing", 10, 2, 0, 0, 0);
        holds("BURIED, the most", 91, 2, 9, 9, 9);
        holds("LOOSENED, dry", 9, 3, 3, 3, 0);
        holds("LOOSENED, 1 left", 1, 3, 3, 3, 4);
        holds("LOOSENED, just 0", 0, 3, 2, 5, 5);
        holds("LOOSENED, 0 at least", 0, 3, 3, 3, 5);
        holds("LOOSENED, 0 at least, far below", 0, 3, 0, 0, 9);
        holds("LOOSENED, WET 9", 63, 3, 9, 9, 9);
        holds("DRAWN, half of 9 cut up", 5, 4, 3, 3, 0);
        holds("DRAWN, half of 20", 10, 4, 5, 4, 0);
        holds("DRAWN, half of 1 cut up", 1, 4, 3, 3, 4);
        holds("DRAWN, half of 0", 0, 4, 2, 5, 5);
        holds("DRAWN, half of LOOSENED that is 0 at least", 0, 4, 3, 3, 9);
        holds("ZIPPED in nothing", 6, 5, 0, 0, 0);
        holds("ZIPPED, as DOUBLED, cut", 19, 5, 3, 3, 9);
        holds("ZIPPED, the most", 127, 5, 9, 9, 0);
    }

    /** What a zipped peg in nothing holds, when these are GONE. */
    private static void zips(String sentence, int want, int n, int peg, int... gone) {
        answers("13: ZIPPED, " + sentence, want, x -> {
            x.tent(n);
            x.peg(peg, 5, 0, 0);
            for (int k : gone) {
                x.stand(k, false);
            }
        }, x -> x.of(peg, 3));
    }

    private static void zipped() {
        zips("the one ahead is GONE", 3, 8, 3, 2);
        zips("the one behind is GONE", 3, 8, 3, 4);
        zips("both are GONE", 0, 8, 3, 2, 4);
        zips("those beyond are GONE", 6, 8, 3, 1, 5);
        zips("round, the one ahead of 0 is GONE", 3, 8, 0, 7);
        zips("round, the one behind 0 is GONE", 3, 8, 0, 1);
        zips("round, the one behind 7 is GONE", 3, 8, 7, 0);
        zips("round, the one ahead of 7 is GONE", 3, 8, 7, 6);
        zips("round, of 3 the one behind 2 is GONE", 3, 3, 2, 0);
        zips("of two both are the other one", 6, 2, 0);
        zips("of two the other one is GONE", 0, 2, 0, 1);
        zips("of two the other one is GONE, 0", 0, 2, 1, 0);
        zips("it is GONE itself", 6, 8, 3, 3);
    }

    private static void pull() {
        range("14: PEG", 0, 4, BAD, (x, k) -> x.pull(k, 0, 1));
        range("14: PEG of 2", 0, 1, BAD, x -> x.tent(2), (x, k) -> x.pull(k, 0, 1));
        range("14: PEG of 8", 0, 7, BAD, x -> x.tent(8), (x, k) -> x.pull(k, 0, 1));
        range("14: WAY", 0, 7, BAD, (x, way) -> x.pull(0, way, 1));
        range("14: STRENGTH", 0, 60, BAD, (x, s) -> x.pull(0, 0, s));
        asks("14: nothing changes", 15, Edges::muchTold, x -> x.pull(1, 0, 20));
        answers("14: STRENGTH 0", 0, x -> x.pull(0, 0, 0));
        answers("14: STRENGTH 60", 60, x -> x.pull(0, 0, 60));
        answers("14: one that is GONE", 0, x -> x.stand(0, false), x -> x.pull(0, 0, 60));
        answers("14: ahead of any that goes", 60, x -> x.peg(1, 0, 0, 0), x -> x.pull(0, 0, 60));
        answers("14: in a tent that is LOST", 60, x -> {
            drawAll(x);
            x.stand(0, true);
        }, x -> x.pull(0, 0, 60));
    }

    private static void pullAround() {
        int[] of7 = {7, 5, 3, 1, 0, 1, 3, 5};
        for (int o = 0; o < 8; o++) {
            int off = o;
            answers("14: 7 times 4, 3, 2, 1, 0 by 4 (cut), " + off + " behind it", of7[off], x -> x.pull(off, 0, 7));
            answers("14: 7 times 4, 3, 2, 1, 0 by 4 (cut), " + off + " ahead of it", of7[off], x -> x.pull(0, off, 7));
            answers("14: round, " + off + " behind the last WAY", of7[off], x -> x.pull((7 + off) % 8, 7, 7));
        }
        answers("14: 1, 1 off: cut", 0, x -> x.pull(1, 0, 1));
        answers("14: 2, 1 off: cut", 1, x -> x.pull(1, 0, 2));
        answers("14: 3, 3 off: cut", 0, x -> x.pull(3, 0, 3));
        answers("14: 4, 3 off", 1, x -> x.pull(3, 0, 4));
        answers("14: 60, 4 off", 0, x -> x.pull(4, 0, 60));
    }

    private static void walled(String sentence, int want, int way, int strength, int... walls) {
        answers("14: " + sentence, want, x -> {
            for (int wall : walls) {
                x.wall(wall, true);
            }
        }, x -> x.pull(way, way, strength));
    }

    private static void walls() {
        walled("a WALL by it makes 7 half (cut)", 3, 0, 7, 0);
        walled("a WALL by it makes 1 half (cut)", 0, 0, 1, 0);
        walled("a WALL by it makes 60 half", 30, 0, 60, 0);
        walled("a WALL beside it makes 7 more, by 4 (cut)", 8, 1, 7, 0);
        walled("a WALL beside it makes 3 no more (cut)", 3, 1, 3, 0);
        walled("a WALL beside it makes 4 more", 5, 1, 4, 0);
        walled("a WALL beside it makes 60 more than 60", 75, 1, 60, 0);
        walled("a WALL behind it makes it more", 8, 1, 7, 2);
        walled("WALLS by both sides make it more once", 8, 1, 7, 0, 2);
        walled("a WALL by it and one beside: half alone", 3, 1, 7, 0, 1);
        walled("a WALL by it and two beside: half alone", 3, 1, 7, 0, 1, 2);
        walled("a WALL by 7 is beside 0", 8, 0, 7, 7);
        walled("a WALL by 0 is beside 7", 8, 7, 7, 0);
        walled("a WALL by 7", 3, 7, 7, 7);
        walled("WALLS 2 off", 7, 3, 7, 1, 5);
        walled("a WALL over against", 7, 3, 7, 7);
        answers("14: made more, then by 4 (cut)", 6, x -> x.wall(0, true), x -> x.pull(0, 1, 7));
        answers("14: made half (cut), then by 4 (cut)", 2, x -> x.wall(0, true), x -> x.pull(1, 0, 7));
    }
}
